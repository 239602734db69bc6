section CL
variable {me : MEnt} {ini : Bool} {d : Nat} {p : Program} {l : Launch} {e : Env} {R : Room} {s : State} {m : MethodId} {args : Array Value} {below : List Frame} {meth : Method} {c : Code} {Qm : State → Prop} {D : va_G} {dT : Nat → ClassId} {z b n0 t0 : Nat} {md : Bool} {B : Nat × Nat × Nat} {Qa : Option AV → Hp → Prop} {pc len : Nat} {ls : Ls} {st : List AV} {σ : Hp} {K : Nat → Ls → List AV → Hp → Prop}
/-- what comes behind a call -/
theorem run_go {H : Heap} {locs : List Loc} {arr : Array Slot} {kc ks mc ms : Nat} {st0 rest : List Value} {Qr : Option AV → Hp → Prop}
    (hr : va_Run p l e R s m args below meth c H locs kc ks mc ms (F0 m pc arr st0) rest (fun st o t => (∃ (r : Option AV) (σ' : Hp), Qr r σ' ∧ o = .returned (r.map (cvv z b)) ∧ HI md D dT z b σ' t t.heap) ∧ va_F (fun q => z < q) st t) (fun q => z < q)) (hS : va_S (fun q => z < q) s.heap H locs)
    (kk : ∀ (r : Option AV) (σ' : Hp) (H1 : Heap) (locs1 : List Loc), Qr r σ' → HI md D dT z b σ' s H1 → va_S (fun q => z < q) s.heap H1 locs1 → W p l e R s m args below meth c H1 locs1 (kc + mc) (ks + ms) Qm (F0 m (pc + 3) arr ((r.map (cvv z b)).toList ++ rest))) :
    W p l e R s m args below meth c H locs kc ks Qm (F0 m pc arr st0) := by
  intro T hT X
  obtain ⟨v, st₀, t, T', L, h0, X', hL, e1, e2, ⟨⟨r, σ', hq, hv, hHI⟩, hz, hk⟩, stp⟩ := hr T hT X
  cases hv
  rw [h0] at hz hk
  have hal : s.vm.Alike t.vm := by rw [← e2]; exact X'.warmed.alike
  have hH1 : HI md D dT z b σ' s T'.heap := by rw [e1]; exact HI_moved hal.symm hHI
  obtain ⟨t2, a1, b1⟩ := kk r σ' T'.heap (locs ++ L) hq hH1 ⟨Nat.le_trans hS.1 (by rw [e1]; exact hz), fun q g1 g2 => by rw [e1, hk q (Nat.lt_of_lt_of_le g1 hS.1) g2]; exact hS.2.1 q g1 g2, fun q hq => by
      rcases List.mem_append.mp hq with g | g
      · exact hS.2.2 q g
      · exact hL q g⟩ T' rfl X'
  exact ⟨t2, stp t2 a1, b1⟩
/-- a call by kind: the machine's own row for it is 'hrun' -/
theorem call_go {H : Heap} {locs : List Loc} {arr : Array Slot} {kc ks mj : Nat} {d' : Nat} {as rest : List AV} {st0 : List Value} {ret : Option FieldType} {K2 : List AV → Hp → Prop}
    (hret : retT.getD mj none = ret) (hB1 : B.1 ≤ n0 + R.cells) (hB2 : B.2.1 ≤ t0 + R.slots) (hc : σ.1.1 = n0 + kc) (hs : σ.1.2.1 = t0 + ks) (hS : va_S (fun q => z < q) s.heap H locs)
    (h : calM md d' mj ret as σ B rest K2)
    (hrun : ∀ (B' : Nat × Nat × Nat) (Q' : Option AV → Hp → Prop) (mj' : MEnt), MT[mj]? = some mj' → σ.1.1 ≤ B'.1 → σ.1.2.1 ≤ B'.2.1 → kc + (B'.1 - σ.1.1) ≤ R.cells → ks + (B'.2.1 - σ.1.2.1) ≤ R.slots →
      (∀ (l : Launch) (D : va_G) (dT : Nat → ClassId) (z b : Nat), Met l mj'.1 (Cond.code mj'.1 mj'.2.1 mj'.2.2.1 mj'.2.2.2.1 :: wT) { frames := d', cells := B'.1 - σ.1.1, slots := B'.2.1 - σ.1.2.1, locals := 64 * d' }
        (fun v U => v = (as.map (cvv z b)).toArray ∧ HI md D dT z b σ U U.heap)
        (fun _ st o t => (∃ (r : Option AV) (σ' : Hp), rOk mj'.2.2.2.1 r ∧ Q' r σ' ∧ σ'.1 = B' ∧ o = .returned (r.map (cvv z b)) ∧ HI md D dT z b σ' t t.heap) ∧ va_F (fun q => z < q) st t)
        (B'.1 - σ.1.1) (B'.2.1 - σ.1.2.1) (fun q => z < q)) →
      va_Run p l e R s m args below meth c H locs kc ks (B'.1 - σ.1.1) (B'.2.1 - σ.1.2.1) (F0 m pc arr st0) (rest.map (cvv z b)) (fun st o t => (∃ (r : Option AV) (σ' : Hp), rOk mj'.2.2.2.1 r ∧ Q' r σ' ∧ σ'.1 = B' ∧ o = .returned (r.map (cvv z b)) ∧ HI md D dT z b σ' t t.heap) ∧ va_F (fun q => z < q) st t) (fun q => z < q))
    (hK : ∀ (st' : List AV) (σ' : Hp), K2 st' σ' → ∀ (H1 : Heap) (locs1 : List Loc) (kc' ks' : Nat), HI md D dT z b σ' s H1 → va_S (fun q => z < q) s.heap H1 locs1 → σ'.1.1 = n0 + kc' → σ'.1.2.1 = t0 + ks' → W p l e R s m args below meth c H1 locs1 kc' ks' Qm (F0 m (pc + 3) arr (st'.map (cvv z b)))) :
    W p l e R s m args below meth c H locs kc ks Qm (F0 m pc arr st0) := by
  have main : ∀ (B' : Nat × Nat × Nat) (Q' : Option AV → Hp → Prop), Ev md d' mj as σ B' Q' → B'.1 ≤ B.1 → B'.2.1 ≤ B.2.1 → (∀ (r : Option AV) (σ' : Hp), rOk ret r → Q' r σ' → σ'.1 = B' → K2 (r.toList ++ rest) σ') → W p l e R s m args below meth c H locs kc ks Qm (F0 m pc arr st0) := by
    intro B' Q' hEv hb1 hb2 hk
    obtain ⟨y1, y2, mj', hmj, hM⟩ := hEv
    have hrt : mj'.2.2.2.1 = ret := by rw [← (mt_d hmj).2.1]; exact hret
    refine run_go (md := md) (D := D) (dT := dT) (b := b) (rest := rest.map (cvv z b)) (Qr := fun r σ' => rOk mj'.2.2.2.1 r ∧ Q' r σ' ∧ σ'.1 = B') (mc := B'.1 - σ.1.1) (ms := B'.2.1 - σ.1.2.1) ?_ hS ?_
    · have := hrun B' Q' mj' hmj y1 y2 (by omega) (by omega) hM
      simpa only [and_assoc] using this
    · intro r σ' H1 locs1 hq hHI hS1
      obtain ⟨q1, q2, q3⟩ := hq
      rw [hrt] at q1
      have := hK (r.toList ++ rest) σ' (hk r σ' q1 q2 q3) H1 locs1 (kc + (B'.1 - σ.1.1)) (ks + (B'.2.1 - σ.1.2.1)) hHI hS1 (by rw [q3]; omega) (by rw [q3]; omega)
      rw [List.map_append] at this
      cases r with
      | none => exact this
      | some v => exact this
  cases ret with
  | none =>
    obtain ⟨B', Q', hEv, h1, h2, h3⟩ := h
    refine main B' Q' hEv h1 h2 fun r σ' hr hq hb => ?_
    have hr : r = none := hr
    subst hr
    exact h3 σ' hq hb
  | some t =>
    cases t with
    | long =>
      obtain ⟨B', Q', hEv, h1, h2, h3⟩ := h
      refine main B' Q' hEv h1 h2 fun r σ' hr hq hb => ?_
      obtain ⟨y, rfl⟩ : ∃ y : Int64, r = some (vl y) := hr
      exact h3 y σ' hq hb
    | _ =>
      obtain ⟨B', Q', hEv, h1, h2, h3⟩ := h
      refine main B' Q' hEv h1 h2 fun r σ' hr hq hb => ?_
      obtain ⟨y, rfl⟩ : ∃ y : Int32, r = some (vi y) := hr
      exact h3 y σ' hq hb
theorem pc_blind {as : List AV} {σ : Hp} : FrameBlind (fun v U => v = (as.map (cvv z b)).toArray ∧ HI md D dT z b σ U U.heap) := fun a U g mk q => ⟨q.1, HI_moved (u := U) (U := U.calling g mk a) (Vm.Alike.refl U.vm) q.2⟩
theorem callB_w {i mj d' : Nat} {mj' : MEnt} {mc ms : Nat} (X : Cx me ini (d' + 1) p R s m args meth c) (hmj : MT[mj]? = some mj') (hw : Cond.methodLink (ownN me.2.2.2.2.1) i (mtN mj) ∈ wT) :
    CallB R s args (ownN me.2.2.2.2.1) i mj'.1 mj'.2.1 mj'.2.2.1 mj'.2.2.2.1 (Cond.code mj'.1 mj'.2.1 mj'.2.2.1 mj'.2.2.2.1 :: wT) { frames := d', cells := mc, slots := ms, locals := 64 * d' } mc ms (pcT.getD mj 0) := by
  obtain ⟨hx, hb, hml, hown, hts, hini, hfr, hlo, hdc⟩ := X
  have hcode := mem_c hmj
  obtain ⟨⟨dd, hdd, hpn⟩, -, -, hcls, hc10⟩ := mt_d hmj
  have hchk := mch mj' (List.mem_of_getElem? hmj)
  simp only [mchk, Bool.and_eq_true, decide_eq_true_eq] at hchk
  obtain ⟨⟨⟨⟨-, -⟩, hL12⟩, hne1⟩, hne2⟩ := hchk
  refine ⟨rfl, rfl, by show d' + 1 ≤ R.frames; omega, by show 8 + (mj'.2.2.1 + 11) + 64 * d' ≤ R.locals; omega, fun w hw a' U hW => ?_, List.mem_cons_self, hts _ hcode, hts _ (w_ini (by rw [hcls]; exact inN _ hc10)), ⟨hne1, hne2⟩, fun sig hsig => ?_, by rw [← mtN_eq hmj]; exact hts _ hw⟩
  · rcases List.mem_cons.mp hw with rfl | hw
    · exact warm (List.mem_filter.mp hcode).2 (hts _ hcode) hW
    · exact warm (List.mem_filter.mp hw).2 (hts _ hw) hW
  · rw [hdd] at hsig
    cases hsig
    exact hpn.symm
theorem callN_w {i mj d' : Nat} {mj' : MEnt} {mc ms : Nat} (X : Cx me ini (d' + 1) p R s m args meth c) (hmj : MT[mj]? = some mj') (hw : Cond.methodLinkNest (ownN me.2.2.2.2.1) i (mtN mj) RX8 ∈ wT) :
    va_CN R s args (ownN me.2.2.2.2.1) i mj'.1 RX8 mj'.2.1 mj'.2.2.1 mj'.2.2.2.1 (Cond.code mj'.1 mj'.2.1 mj'.2.2.1 mj'.2.2.2.1 :: wT) { frames := d', cells := mc, slots := ms, locals := 64 * d' } mc ms (pcT.getD mj 0) := by
  obtain ⟨hx, hb, hml, hown, hts, hini, hfr, hlo, hdc⟩ := X
  have hcode := mem_c hmj
  obtain ⟨⟨dd, hdd, hpn⟩, -, -, hcls, hc10⟩ := mt_d hmj
  have hchk := mch mj' (List.mem_of_getElem? hmj)
  simp only [mchk, Bool.and_eq_true, decide_eq_true_eq] at hchk
  obtain ⟨⟨⟨⟨-, -⟩, hL12⟩, hne1⟩, hne2⟩ := hchk
  refine ⟨⟨rfl, rfl, by show d' + 1 ≤ R.frames; omega, by show 8 + (mj'.2.2.1 + 11) + 64 * d' ≤ R.locals; omega, fun w hw a' U hW => ?_, List.mem_cons_self⟩, hts _ hcode, hts _ (w_ini (by rw [hcls]; exact inN _ hc10)), ⟨hne1, hne2⟩, fun sig hsig => ?_, by rw [← mtN_eq hmj]; exact hts _ hw⟩
  · rcases List.mem_cons.mp hw with rfl | hw
    · exact warm (List.mem_filter.mp hcode).2 (hts _ hcode) hW
    · exact warm (List.mem_filter.mp hw).2 (hts _ hw) hW
  · rw [hdd] at hsig
    cases hsig
    exact hpn.symm
end CL
