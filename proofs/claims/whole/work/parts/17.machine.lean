section MC
variable {me : MEnt} {ini : Bool} {d : Nat} {p : Program} {l : Launch} {e : Env} {R : Room} {s : State} {m : MethodId} {args : Array Value} {below : List Frame} {meth : Method} {c : Code} {Qm : State → Prop} {D : va_G} {dT : Nat → ClassId} {z b n0 t0 : Nat} {md : Bool} {B : Nat × Nat × Nat} {Qa : Option AV → Hp → Prop} {pc len : Nat} {ls : Ls} {st : List AV} {σ : Hp} {K : Nat → Ls → List AV → Hp → Prop}
theorem one_invI (X : Cx me ini d p R s m args meth c) (hB1 : B.1 ≤ n0 + R.cells) (hB2 : B.2.1 ≤ t0 + R.slots) {i : Nat} (hd : decode me.2.1 pc = .ok (.invokespecial i, len)) (hln : lnOk pc (.invokespecial i) len = true)
    (h : one md ini d B me.2.2.2.1 Qa me.2.2.2.2.1 (.invokespecial i) pc ls st σ K) (hK : ∀ pc' ls' st' σ', K pc' ls' st' σ' → WA me p l e R s m args below meth c Qm D dT z b n0 t0 md pc' ls' st' σ') : WA me p l e R s m args below meth c Qm D dT z b n0 t0 md pc ls st σ := by
  have X0 := X
  obtain ⟨hx, hb, hml, hown, hts, hini, hfr, hlo, hdc⟩ := X
  intro H locs arr kc ks hH hS hLs hc hs
  obtain rfl : len = 3 := by simpa [lnOk] using hln
  have spec : ∀ (mj : Nat) (a : Nat × Nat) (r : List AV), mlk me.2.2.2.2.1 i = some (2, mj) ∨ mlk me.2.2.2.2.1 i = some (4, mj) → st.drop (pcT.getD mj 0) = .inr (.inr (some a)) :: r → callP md d mj none (.inr (.inr (some a)) :: (st.take (pcT.getD mj 0)).reverse) σ B r (fun st' σ' => K (pc + 3) ls st' σ') → W p l e R s m args below meth c H locs kc ks Qm (F0 m pc arr (st.map (cvv z b))) := by
    intro mj a r hm hst hp'
    have hkk : idxI.elem mj = true ∧ (mtN mj).name = "<init>" ∧ retT.getD mj none = none := by
      rcases hm with hm | hm
      · exact (mk_k hm).2.2 (Or.inl rfl)
      · exact (mk_k hm).2.2 (Or.inr rfl)
    cases d with
    | zero => exact hp'.elim
    | succ d' =>
      unfold callP at hp'
      dsimp only at hp'
      cases hw8 : Nat.ble (stw r) 8 with
      | false => rw [hw8] at hp'; exact hp'.elim
      | true =>
        rw [hw8, cond_true] at hp'
        have hw8 : stw r ≤ 8 := Nat.le_of_ble_eq_true hw8
        have hdec : st = st.take (pcT.getD mj 0) ++ .inr (.inr (some a)) :: r := by rw [← hst, List.take_append_drop]
        have hlen : (st.take (pcT.getD mj 0)).length = pcT.getD mj 0 := by
          rw [List.length_take]
          have : st.length = (st.take (pcT.getD mj 0)).length + (r.length + 1) := by
            conv => lhs; rw [hdec]
            simp
          rw [List.length_take] at this
          omega
        refine call_go (mj := mj) (d' := d') (as := .inr (.inr (some a)) :: (st.take (pcT.getD mj 0)).reverse) (rest := r) hkk.2.2 hB1 hB2 hc hs hS hp' ?_ (fun st' σ' hk H1 locs1 kc' ks' hHI hS1 hc' hs' => hK _ _ _ _ hk H1 locs1 arr kc' ks' hHI hS1 hLs hc' hs')
        intro B' Q' mj' hmj y1 y2 y3 y4 hM
        have hrn : mj'.2.2.2.1 = none := by rw [← (mt_d hmj).2.1]; exact hkk.2.2
        have hyn : mj'.1.name = "<init>" := by rw [← mtN_eq hmj]; exact hkk.2.1
        have hstk : (F0 m pc arr (st.map (cvv z b))).stack = (((st.take (pcT.getD mj 0)).reverse).map (cvv z b)).reverse ++ .ref (adr z b a) :: r.map (cvv z b) := by
          show st.map (cvv z b) = _
          conv => lhs; rw [hdec]
          rw [List.map_append, List.map_cons, List.map_reverse, List.reverse_reverse]
          rfl
        have hp : PreS s H (fun v U => v = ((.inr (.inr (some a)) :: (st.take (pcT.getD mj 0)).reverse).map (cvv z b)).toArray ∧ HI md D dT z b σ U U.heap) (.ref (adr z b a) :: ((st.take (pcT.getD mj 0)).reverse).map (cvv z b)) := ⟨pc_blind, fun U hU hW => ⟨rfl, by rw [hU]; exact HI_moved hW.alike hH⟩⟩
        have hMM := hM l D dT z b
        rcases hm with hm | hm
        · have hcw := callB_w (i := i) (mc := B'.1 - σ.1.1) (ms := B'.2.1 - σ.1.2.1) X0 hmj (mlk_w hm (by omega))
          rw [hrn] at hcw hMM
          have := va_runI (Ts := wT) (own := ownN me.2.2.2.2.1) (n := pcT.getD mj 0) (e := e) (below := below) (meth := meth) (locs := locs) (cells := kc) (slots := ks) ⟨hx, hb, hml, hown, hts⟩ hMM ⟨hcw, hyn, by rw [← mtN_eq hmj]; exact hts _ (mem_i hkk.1)⟩ hp rfl (by rw [List.length_map, List.length_reverse]; exact hlen) hLs.1 hstk (by show 2 * 0 + _ ≤ 8; rw [stw_cvv]; omega) hd ⟨y3, y4⟩
          rw [hrn]
          exact this
        · have hcw := callN_w (i := i) (mc := B'.1 - σ.1.1) (ms := B'.2.1 - σ.1.2.1) X0 hmj (mlk_n hm (Or.inr rfl))
          rw [hrn] at hcw hMM
          have := va_runIN (Ts := wT) (own := ownN me.2.2.2.2.1) (n := pcT.getD mj 0) (e := e) (below := below) (meth := meth) (locs := locs) (cells := kc) (slots := ks) ⟨hx, hb, hml, hown, hts⟩ hMM ⟨hcw, hyn, by rw [← mtN_eq hmj]; exact hts _ (mem_i hkk.1)⟩ hp rfl (by rw [List.length_map, List.length_reverse]; exact hlen) hLs.1 hstk (by show 2 * 0 + _ ≤ 8; rw [stw_cvv]; omega) hd ⟨y3, y4⟩
          rw [hrn]
          exact this
  simp only [one] at h
  split at h
  · rename_i w0 hm
    split at h
    · rename_i d' a r
      cases hw8 : Nat.ble (stw r) 8 with
      | false => rw [hw8] at h; exact h.elim
      | true =>
        rw [hw8, cond_true] at h
        have hw8 : stw r ≤ 8 := Nat.le_of_ble_eq_true hw8
        exact W.objInit (a := adr z b a) (rest := r.map (cvv z b)) hx hb hown (hts _ (mlk_j hm (by omega))) (hts _ (w_inst (List.elem_iff.mp jdkI))) (hts _ (w_code jdkC3)) rfl (by rw [hml]; exact hLs.1) rfl hd (by omega) (by show 2 * 0 + _ + 12 ≤ _; rw [stw_cvv]; omega) (hK _ _ _ _ h H locs arr kc ks hH hS hLs hc hs)
    · exact h.elim
  · rename_i mj hm
    split at h
    · rename_i a r hst
      exact spec mj a r (Or.inl hm) hst h
    · exact h.elim
  · rename_i mj hm
    split at h
    · rename_i a r hst
      exact spec mj a r (Or.inr hm) hst h
    · exact h.elim
  · exact h.elim
theorem one_ok (X : Cx me ini d p R s m args meth c) (hB1 : B.1 ≤ n0 + R.cells) (hB2 : B.2.1 ≤ t0 + R.slots) (hz : z < s.heap.size) (hret : HRet me p l e R s m args below meth c Qm D dT z b n0 t0 md B Qa) {ins : Instr} (hd : decode me.2.1 pc = .ok (ins, len)) (hln : lnOk pc ins len = true)
    (h : one md ini d B me.2.2.2.1 Qa me.2.2.2.2.1 ins pc ls st σ K) (hK : ∀ pc' ls' st' σ', K pc' ls' st' σ' → WA me p l e R s m args below meth c Qm D dT z b n0 t0 md pc' ls' st' σ') : WA me p l e R s m args below meth c Qm D dT z b n0 t0 md pc ls st σ := by
  cases hsi : SimI ins with
  | true => exact one_sim X hsi hd hln h hK
  | false =>
    cases ins with
    | getfield i => exact one_getf X hd hln h hK
    | putfield i => exact one_putf X hd hln h hK
    | iaload => exact one_iald X hd hln hz h hK
    | caload => exact one_cald X hd hln h hK
    | laload => exact one_lald X hd hln h hK
    | aaload => exact one_aald X hd hln h hK
    | iastore => exact one_iast X hd hln h hK
    | castore => exact one_cast X hd hln h hK
    | lastore => exact one_last X hd hln h hK
    | aastore => exact one_aast X hd hln h hK
    | arraylength => exact one_alen X hd hln h hK
    | ireturn => exact one_ret hret (Or.inl rfl) hd hln h
    | lreturn => exact one_ret hret (Or.inr (Or.inl rfl)) hd hln h
    | return_ => exact one_ret hret (Or.inr (Or.inr rfl)) hd hln h
    | new i => exact one_new X hB1 hB2 hd hln h hK
    | newarray t => exact one_newa X hB1 hB2 hd hln h hK
    | anewarray i => exact one_anew X hB1 hB2 hd hln h hK
    | invokevirtual i => exact one_inv X hB1 hB2 hd hln h hK
    | invokestatic i => exact one_invS X hB1 hB2 hd hln h hK
    | invokespecial i => exact one_invI X hB1 hB2 hd hln h hK
    | _ => first | (exact absurd hsi (by decide)) | exact h.elim | (simp [SimI] at hsi)
end MC
/-- the machine does what wp says -/
theorem wp_ok {md ini : Bool} {d mi : Nat} {B : Nat × Nat × Nat} {ret : Option FieldType} {Qa : Option AV → Hp → Prop} {oc : Nat} {tb : List (Nat × Instr × Nat)} {cut : List Nat} {y : MethodName} {cc : ByteArray} {nL : Nat} (hm : MA[mi]? = some (y, cc, nL, ret, oc, tb)) (hi : isIni (y, cc, nL, ret, oc, tb) = ini) :
    ∀ (n pc : Nat) (ls : Ls) (st : List AV) (σ : Hp), wp md ini d mi B ret Qa oc tb cut n pc ls st σ → Sat md d mi B Qa pc ls st σ := by
  intro n
  induction n with
  | zero => intro pc ls st σ h; exact h
  | succ n ih =>
    intro pc ls st σ h
    intro me hme p l e R s m args below meth c Qm D dT z b n0 t0 X hB1 hB2 hz hret
    obtain rfl : me = (y, cc, nL, ret, oc, tb) := Option.some.inj (hme.symm.trans hm)
    have h : (match lkI tb pc with
      | none => False
      | some q => one md ini d B ret Qa oc q.1 pc ls st σ fun pc' ls' st' σ' => bif cut.elem pc' then Sat md d mi B Qa pc' ls' st' σ' else wp md ini d mi B ret Qa oc tb cut n pc' ls' st' σ') := h
    cases hq : lkI tb pc with
    | none => rw [hq] at h; exact h.elim
    | some q =>
      rw [hq] at h
      obtain ⟨hd, hln⟩ := dk X.2.2.2.2.2.2.2.2 hq
      rw [hi] at X
      refine one_ok X hB1 hB2 hz hret hd hln h fun pc' ls' st' σ' hk => ?_
      have hs : Sat md d mi B Qa pc' ls' st' σ' := by
        cases hcu : cut.elem pc' with
        | true => rw [hcu] at hk; exact hk
        | false => rw [hcu] at hk; exact ih pc' ls' st' σ' hk
      exact hs _ hm p l e R s m args below meth c Qm D dT z b n0 t0 (by rw [hi]; exact X) hB1 hB2 hz hret
theorem ent_len : ∀ as : List AV, (ent as).length = ((as.map cat).sum)
  | [] => rfl
  | .inl x :: t => by simp only [ent, List.length_cons, ent_len t, List.map_cons, List.sum_cons, cat]; omega
  | .inr (.inl x) :: t => by simp only [ent, List.length_cons, ent_len t, List.map_cons, List.sum_cons, cat]; omega
  | .inr (.inr x) :: t => by simp only [ent, List.length_cons, ent_len t, List.map_cons, List.sum_cons, cat]; omega
theorem sl_len (z b : Nat) : ∀ as : List AV, (lg_sl (as.map (cvv z b))).length = (ent as).length
  | [] => rfl
  | .inl x :: t => by
    have := sl_len z b t
    simp only [lg_sl, List.map_cons, List.flatMap_cons, List.length_append] at this ⊢
    rw [this]
    simp [cvv, Value.category, ent]
    omega
  | .inr (.inl x) :: t => by
    have := sl_len z b t
    simp only [lg_sl, List.map_cons, List.flatMap_cons, List.length_append] at this ⊢
    rw [this]
    simp [cvv, Value.category, ent]
    omega
  | .inr (.inr x) :: t => by
    have := sl_len z b t
    simp only [lg_sl, List.map_cons, List.flatMap_cons, List.length_append] at this ⊢
    rw [this]
    cases x <;> simp [cvv, Value.category, ent, va_rf] <;> omega
/-- a contract out of the walk of the body -/
theorem Ev_of {md : Bool} {d mi : Nat} {args : List AV} {σ : Hp} {B : Nat × Nat × Nat} {Q : Option AV → Hp → Prop} {me : MEnt} (hm : MT[mi]? = some me) (hl : (ent args).length ≤ me.2.2.1) (h1 : σ.1.1 ≤ B.1) (h2 : σ.1.2.1 ≤ B.2.1) (hq : Sat md d mi B Q 0 (entL me.2.2.1 args) [] σ) : Ev md d mi args σ B Q := by
  refine ⟨h1, h2, me, hm, fun l D dT z b => ?_⟩
  have hchk := mch me (List.mem_of_getElem? hm)
  simp only [mchk, Bool.and_eq_true, decide_eq_true_eq] at hchk
  obtain ⟨⟨⟨⟨hdc, hpl⟩, hL12⟩, -⟩, -⟩ := hchk
  have hma : MA[mi]? = some me := by
    unfold MA
    rw [List.getElem?_append_left (List.getElem?_eq_some_iff.mp hm).1]
    exact hm
  refine Met.ofW (cc := me.2.1) (maxL := me.2.2.1) (ret := me.2.2.2.1) hpl rfl ?_
  intro p e s m args' below meth c s₁ Bd hml hv
  obtain ⟨rfl, hHI⟩ := hv
  have hts := atoms_spec (ws := Cond.code me.1 me.2.1 me.2.2.1 me.2.2.2.1 :: wT) Bd.pre
  have hown : s.vm.findClass me.1.cls = some m.cls := findClass_of_methodNamed Bd.named
  have hlocks := Bd.notSynchronized
  rw [lg_entry_eq]
  have hent := lv_entry (args.map (cvv z b)) (n := me.2.2.1) (by rw [sl_len]; exact hl)
  have hsz := hHI.2.2.1
  have hlen1 := hHI.2.2.2.2.2.2.1
  refine hq me hma p l e _ s m _ below meth c _ D dT z b σ.1.1 σ.1.2.1 ⟨Bd.exec, Bd.bytes, hml, by rw [← (mt_d hm).2.2.2.1]; exact hown, fun w hw => hts w (List.mem_cons_of_mem _ hw), fun hi => ?_, Nat.le_refl _, Nat.le_refl _, hdc⟩ (by show B.1 ≤ σ.1.1 + (B.1 - σ.1.1); omega) (by show B.2.1 ≤ σ.1.2.1 + (B.2.1 - σ.1.2.1); omega) (by omega) ?_ s.heap [] _ 0 0 hHI va_S.rf ⟨hent.1, hent.2.1, ?_, fun i v hiv => ?_⟩ rfl rfl
  · rw [(name_of_methodNamed Bd.named Bd.method).1]
    exact of_decide_eq_true hi
  · intro r σ' H locs arr kc ks pc' ri hri hdd hQ hB hH hS hc hs
    have ekc : kc = B.1 - σ.1.1 := by rw [hB] at hc; omega
    have eks : ks = B.2.1 - σ.1.2.1 := by rw [hB] at hs; omega
    subst ekc
    subst eks
    have hr := Bd.returns
    have fin : ∀ (ov : Option Value), ov = r.map (cvv z b) → ∀ t : State, t.heap = H → s.WarmedH t.vm → (∃ (r : Option AV) (σ' : Hp), rOk me.2.2.2.1 r ∧ Q r σ' ∧ σ'.1 = B ∧ Outcome.returned ov = .returned (r.map (cvv z b)) ∧ HI md D dT z b σ' t t.heap) ∧ va_F (fun q => z < q) s t := by
      intro ov hov t ht hW
      refine ⟨⟨r, σ', ?_, hQ, hB, by rw [hov], by rw [ht]; exact HI_moved hW.alike hH⟩, hS.F ht⟩
      unfold rIns at hri
      unfold rOk
      split at hri
      · rename_i hh; rw [hh]; exact hri.2
      · rename_i hh; rw [hh]; exact hri.2
      · rename_i hh
        rw [hh]
        obtain ⟨-, x, hx, -⟩ := hri
        exact ⟨x, hx⟩
      · rename_i hh
        rw [hri.2.1]
        exact hri.2.2
    unfold rIns at hri
    split at hri
    · rename_i hh
      obtain ⟨rfl, rfl⟩ := hri
      rw [hh] at hr
      exact W.vret Bd.exec Bd.bytes hr (fun t ht hW => fin none rfl t ht hW) hS.2.2 hdd
    · rename_i hh
      obtain ⟨rfl, y, rfl⟩ := hri
      rw [hh] at hr
      exact W.lret Bd.exec Bd.bytes hr (fun t ht hW => fin (some (.long y)) rfl t ht hW) hS.2.2 hdd
    · rename_i hh
      obtain ⟨rfl, x, rfl, hx01⟩ := hri
      rw [hh] at hr
      exact W.zret Bd.exec Bd.bytes hr (by rcases hx01 with rfl | rfl <;> decide) (fun t ht hW => fin (some (.int x)) rfl t ht hW) hS.2.2 hdd
    · obtain ⟨rfl, hh, x, rfl⟩ := hri
      rw [hh] at hr
      exact W.iret Bd.exec Bd.bytes hr (fun t ht hW => fin (some (.int x)) rfl t ht hW) hS.2.2 hdd
  · unfold entL
    rw [List.length_append, List.length_replicate]
    omega
  · unfold entL at hiv
    have hix : (ent args)[i]? = some (some v) := by
      rcases Nat.lt_or_ge i (ent args).length with q | q
      · rw [List.getElem?_append_left q] at hiv
        exact hiv
      · rw [List.getElem?_append_right q] at hiv
        have := List.mem_of_getElem? hiv
        rw [List.mem_replicate] at this
        cases this.2
    have h3 := ent_ok z b args 0 i v hix
    rw [Nat.zero_add] at h3
    exact hent.2.2 _ h3
