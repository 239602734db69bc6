section WS
variable {me : MEnt} {ini : Bool} {d : Nat} {p : Program} {l : Launch} {e : Env} {R : Room} {s : State} {m : MethodId} {args : Array Value} {below : List Frame} {meth : Method} {c : Code} {Qm : State → Prop} {D : va_G} {dT : Nat → ClassId} {z b n0 t0 : Nat} {md : Bool} {B : Nat × Nat × Nat} {Qa : Option AV → Hp → Prop} {pc len : Nat} {ls : Ls} {st : List AV} {σ : Hp} {K : Nat → Ls → List AV → Hp → Prop}
theorem fit_nar (x : Int32) : fits .char (.int (vp_nar .char x)) = true := by
  rw [vp_nar_char, ← lg_i2c_nf]
  exact pk_fc x
theorem one_iast (X : Cx me ini d p R s m args meth c) (hd : decode me.2.1 pc = .ok (.iastore, len)) (hln : lnOk pc .iastore len = true)
    (h : one md ini d B me.2.2.2.1 Qa me.2.2.2.2.1 .iastore pc ls st σ K) (hK : ∀ pc' ls' st' σ', K pc' ls' st' σ' → WA me p l e R s m args below meth c Qm D dT z b n0 t0 md pc' ls' st' σ') : WA me p l e R s m args below meth c Qm D dT z b n0 t0 md pc ls st σ := by
  obtain ⟨hx, hb, hml, hown, hts, hini, hfr, hlo, hdc⟩ := X
  intro H locs arr kc ks hH hS hLs hc hs
  obtain rfl : len = 1 := by simpa [lnOk] using hln
  simp only [one] at h
  split at h
  · rename_i x i f q r
    cases hq : Nat.beq (fkd f).1 20 with
    | false => rw [hq] at h; exact False.elim h
    | true =>
      rw [hq, cond_true] at h
      have hk0 := beq_n hq
      obtain ⟨p', hp', ep, hl, hl1, hfa⟩ := acc_ok (by omega) hH.2.2.2.2.2.2.2 h
      have hf1 := fk_ne0 hk0 (by omega)
      have he := wsl_get md dT z b σ hl hl1 hfa
      rw [cell_i hk0 (Or.inl rfl)] at he
      refine W.eq (g2 := F0 m pc arr (.int x :: .int i :: .ref (z + cidx f p') :: r.map (cvv z b))) (by rw [List.map_cons, List.map_cons, List.map_cons, ref_eq hf1 ep]; rfl) ?_
      refine W.iast hx hb (hH.2.1 _ _ he) ((hH.1.2 0 _ rfl).1 (fkd f).2 (fun j => .int (hI σ f p' j))) (fun q => by cases q) (by show ¬ (i < 0 ∨ (arrV _ _ _).slots.size ≤ _); rw [arrV_size]; exact hp'.1) rfl rfl hd fun H1 e1 z1 oq => ?_
      refine hK _ _ _ _ hp'.2 H1 _ arr kc ks (HI_write hH hl hl1 hfa rfl (fun a ha => cellE_congr (hI_setI_ne ha) rfl rfl) (ch_setI hH.2.2.2.1 (fun q => by omega)) (hI0_setI hf1) z1 oq ?_) (hS.put z1 oq (by show z < z + cidx f p'; omega)) hLs hc hs
      rw [cell_i hk0 (Or.inl rfl), hI_setI]
      show H1[z + cidx f p']? = some (vp_cell _ _)
      rw [e1, vp_cell_i, vp_cell_i, arrV_store]
      congr 2
      funext j
      simp only [updV, upd]
      split <;> rfl
  · exact h.elim
theorem one_cast (X : Cx me ini d p R s m args meth c) (hd : decode me.2.1 pc = .ok (.castore, len)) (hln : lnOk pc .castore len = true)
    (h : one md ini d B me.2.2.2.1 Qa me.2.2.2.2.1 .castore pc ls st σ K) (hK : ∀ pc' ls' st' σ', K pc' ls' st' σ' → WA me p l e R s m args below meth c Qm D dT z b n0 t0 md pc' ls' st' σ') : WA me p l e R s m args below meth c Qm D dT z b n0 t0 md pc ls st σ := by
  obtain ⟨hx, hb, hml, hown, hts, hini, hfr, hlo, hdc⟩ := X
  intro H locs arr kc ks hH hS hLs hc hs
  obtain rfl : len = 1 := by simpa [lnOk] using hln
  simp only [one] at h
  split at h
  · rename_i x i f q r
    cases hq : Nat.beq (fkd f).1 21 with
    | false => rw [hq] at h; exact False.elim h
    | true =>
      rw [hq, cond_true] at h
      have hk0 := beq_n hq
      obtain ⟨p', hp', ep, hl, hl1, hfa⟩ := acc_ok (by omega) hH.2.2.2.2.2.2.2 h
      have hf1 := fk_ne0 hk0 (by omega)
      have he := wsl_get md dT z b σ hl hl1 hfa
      rw [cell_i hk0 (Or.inr rfl)] at he
      refine W.eq (g2 := F0 m pc arr (.int x :: .int i :: .ref (z + cidx f p') :: r.map (cvv z b))) (by rw [List.map_cons, List.map_cons, List.map_cons, ref_eq hf1 ep]; rfl) ?_
      refine W.cast hx hb (hH.2.1 _ _ he) ((hH.1.2 1 _ rfl).1 (fkd f).2 (fun j => .int (hI σ f p' j))) (fun q => by cases q) (by show ¬ (i < 0 ∨ (arrV _ _ _).slots.size ≤ _); rw [arrV_size]; exact hp'.1) rfl rfl hd fun H1 e1 z1 oq => ?_
      refine hK _ _ _ _ hp'.2 H1 _ arr kc ks (HI_write hH hl hl1 hfa rfl (fun a ha => cellE_congr (hI_setI_ne ha) rfl rfl) (ch_setI hH.2.2.2.1 (fun _ => fit_nar x)) (hI0_setI hf1) z1 oq ?_) (hS.put z1 oq (by show z < z + cidx f p'; omega)) hLs hc hs
      rw [cell_i hk0 (Or.inr rfl), hI_setI]
      show H1[z + cidx f p']? = some (vp_cell _ _)
      rw [e1, vp_cell_i, vp_cell_i, arrV_store]
      congr 2
      funext j
      simp only [updV, upd]
      split
      · simp [vp_nar]
        try rfl
      · rfl
  · exact h.elim
theorem one_last (X : Cx me ini d p R s m args meth c) (hd : decode me.2.1 pc = .ok (.lastore, len)) (hln : lnOk pc .lastore len = true)
    (h : one md ini d B me.2.2.2.1 Qa me.2.2.2.2.1 .lastore pc ls st σ K) (hK : ∀ pc' ls' st' σ', K pc' ls' st' σ' → WA me p l e R s m args below meth c Qm D dT z b n0 t0 md pc' ls' st' σ') : WA me p l e R s m args below meth c Qm D dT z b n0 t0 md pc ls st σ := by
  obtain ⟨hx, hb, hml, hown, hts, hini, hfr, hlo, hdc⟩ := X
  intro H locs arr kc ks hH hS hLs hc hs
  obtain rfl : len = 1 := by simpa [lnOk] using hln
  simp only [one] at h
  split at h
  · rename_i x i f q r
    cases hq : Nat.beq (fkd f).1 22 with
    | false => rw [hq] at h; exact False.elim h
    | true =>
      rw [hq, cond_true] at h
      have hk0 := beq_n hq
      obtain ⟨p', hp', ep, hl, hl1, hfa⟩ := acc_ok (by omega) hH.2.2.2.2.2.2.2 h
      have hf1 := fk_ne0 hk0 (by omega)
      have he := wsl_get md dT z b σ hl hl1 hfa
      rw [cell_l hk0] at he
      refine W.eq (g2 := F0 m pc arr (.long x :: .int i :: .ref (z + cidx f p') :: r.map (cvv z b))) (by rw [List.map_cons, List.map_cons, List.map_cons, ref_eq hf1 ep]; rfl) ?_
      refine W.last hx hb (hH.2.1 _ _ he) ((hH.1.2 2 _ rfl).1 (fkd f).2 (fun j => .long (hL σ f p' j))) (fun q => by cases q) (by show ¬ (i < 0 ∨ (arrV _ _ _).slots.size ≤ _); rw [arrV_size]; exact hp'.1) rfl rfl hd fun H1 e1 z1 oq => ?_
      refine hK _ _ _ _ hp'.2 H1 _ arr kc ks (HI_write hH hl hl1 hfa rfl (fun a ha => cellE_congr rfl (hL_setL_ne ha) rfl) hH.2.2.2.1 rfl z1 oq ?_) (hS.put z1 oq (by show z < z + cidx f p'; omega)) hLs hc hs
      rw [cell_l hk0, hL_setL]
      show H1[z + cidx f p']? = some (vp_cell _ _)
      rw [e1, vp_cell_l, vp_cell_l, arrV_store]
      congr 2
      funext j
      simp only [updV, vp_updL]
      split <;> rfl
  · exact h.elim
theorem okind_in {ci k : Nat} (h : okind ci = k) (hk : k < 26) : (ci = 7 ∧ k = 23) ∨ (ci = 3 ∧ k = 24) ∨ (ci = 1 ∧ k = 25) := by
  unfold okind at h
  split at h
  · exact Or.inl ⟨rfl, h.symm⟩
  · exact Or.inr (Or.inl ⟨rfl, h.symm⟩)
  · exact Or.inr (Or.inr ⟨rfl, h.symm⟩)
  · omega
theorem one_aast (X : Cx me ini d p R s m args meth c) (hd : decode me.2.1 pc = .ok (.aastore, len)) (hln : lnOk pc .aastore len = true)
    (h : one md ini d B me.2.2.2.1 Qa me.2.2.2.2.1 .aastore pc ls st σ K) (hK : ∀ pc' ls' st' σ', K pc' ls' st' σ' → WA me p l e R s m args below meth c Qm D dT z b n0 t0 md pc' ls' st' σ') : WA me p l e R s m args below meth c Qm D dT z b n0 t0 md pc ls st σ := by
  obtain ⟨hx, hb, hml, hown, hts, hini, hfr, hlo, hdc⟩ := X
  intro H locs arr kc ks hH hS hLs hc hs
  obtain rfl : len = 1 := by simpa [lnOk] using hln
  simp only [one] at h
  split at h
  · rename_i g q i f p0 r
    cases hq : Nat.blt (fkd g).1 20 && (Nat.beq (fkd f).1 (okind (fkd g).1) && Nat.blt (fkd f).1 26) with
    | false => rw [hq] at h; exact False.elim h
    | true =>
      rw [hq, cond_true] at h
      simp only [Bool.and_eq_true] at hq
      have hg20 : (fkd g).1 < 20 := by simpa using hq.1
      have hfk := beq_n hq.2.1
      have hf26 : (fkd f).1 < 26 := by simpa using hq.2.2
      have hoks := okind_in hfk.symm hf26
      have hf22 : 22 < (fkd f).1 := by omega
      obtain ⟨p', hp', ep, hl, hl1, hfa⟩ := acc_ok (by omega) hH.2.2.2.2.2.2.2 h
      obtain ⟨q', hq', eq2, hm, hm1, hma⟩ := acc_ok (by omega) hH.2.2.2.2.2.2.2 hp'
      have hf1 := fk_ne0 (f := f) rfl (by omega)
      have hg1 := fk_ne0 (f := g) rfl (by omega)
      obtain ⟨hin, hq2⟩ := hq'
      have hp2 : (md = true → srf f p' i.toNatClampNeg = none) ∧ K (pc + 1) ls r (setR σ f p' i.toNatClampNeg (some (g, q'))) := by
        cases md with
        | false => exact ⟨fun q => (by cases q), hq2⟩
        | true =>
          cases hsr : srf f p' i.toNatClampNeg with
          | none => rw [hsr] at hq2; exact ⟨fun _ => rfl, hq2⟩
          | some a => rw [hsr] at hq2; exact hq2.elim
      have he := wsl_get md dT z b σ hl hl1 hfa
      rw [cell_r hf22] at he
      have hev := wsl_get md dT z b σ hm hm1 hma
      rw [cell_o hg20] at hev
      obtain ⟨t1, cc, ht, hcl⟩ : ∃ (t1 : Nat) (cc : vw_C), (tysL dT)[t1]? = some (dT (fkd f).1, .object cc.1) ∧ clsW[(fkd g).1]? = some cc := by
        rcases hoks with ⟨e1, e2⟩ | ⟨e1, e2⟩ | ⟨e1, e2⟩
        · rw [e1, e2]; exact ⟨3, _, rfl, rfl⟩
        · rw [e1, e2]; exact ⟨4, _, rfl, rfl⟩
        · rw [e1, e2]; exact ⟨5, _, rfl, rfl⟩
      have hlt : i.toNatClampNeg < (fkd f).2 := Nat.not_le.mp fun q => hin (Or.inr q)
      have h0 : ¬ i < 0 := fun q => hin (Or.inl q)
      obtain ⟨r', hr', cellV, g1, g2, g3, -⟩ := hH.2.1 _ _ hev
      have hcls := (hH.1.1 _ cc hcl).2
      obtain ⟨kA, comp, k1, k2, k3, -⟩ := (hH.1.2 t1 _ ht).2
      obtain rfl : comp = D.1 (fkd g).1 := Option.some.inj (k3.symm.trans hcls.1)
      obtain ⟨kC, hkC, -⟩ := hcls.2
      refine W.eq (g2 := F0 m pc arr (.ref (z + cidx g q') :: .int i :: .ref (z + cidx f p') :: r.map (cvv z b))) (by rw [List.map_cons, List.map_cons, List.map_cons, ref_eq hf1 ep, ref_eq hg1 eq2]; rfl) ?_
      refine W.aast hx hb (hH.2.1 _ _ he) (fun q h => by cases h) (fun h => by cases h) k1 k2 rfl hkC ⟨h0, by show _ < (arrV _ _ _).slots.size; rw [arrV_size]; exact hlt⟩ g1 (fun q h => by rw [g3] at h; cases h) (by rw [g2]; exact hkC) (by rw [g2]; exact va_assign hcls) rfl rfl hd fun H1 e1 z1 oq => ?_
      refine hK _ _ _ _ hp2.2 H1 _ arr kc ks (HI_write hH hl hl1 hfa rfl (fun a ha => cellE_congr rfl rfl (hR_setR_ne ha)) hH.2.2.2.1 rfl z1 oq ?_) (hS.put z1 oq (by show z < z + cidx f p'; omega)) hLs hc hs
      rw [cell_r hf22]
      show H1[z + cidx f p']? = some (vp_cell _ _)
      rw [e1, vp_cell_q, vp_cell_q, arrV_store]
      congr 2
      funext j
      by_cases hj : j = i.toNatClampNeg
      · subst hj
        have e2 : rdr md (setR σ f p' i.toNatClampNeg (some (g, q'))) f p' i.toNatClampNeg = some (g, q') := by
          cases md with
          | false => simp only [rdr, hR_setR, va_up, if_true]
          | true => simp only [rdr, hp2.1 rfl, hR_setR, va_up, if_true]
        rw [e2]
        simp only [updV, if_true]
        show Value.ref _ = Value.ref (adr z b (g, q'))
        rw [adr_eq hg1 rfl]
      · simp only [updV, if_neg hj, rdr, hR_setR, va_up]
  · exact h.elim
end WS
