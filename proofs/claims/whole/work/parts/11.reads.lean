section RD
variable {me : MEnt} {ini : Bool} {d : Nat} {p : Program} {l : Launch} {e : Env} {R : Room} {s : State} {m : MethodId} {args : Array Value} {below : List Frame} {meth : Method} {c : Code} {Qm : State → Prop} {D : va_G} {dT : Nat → ClassId} {z b n0 t0 : Nat} {md : Bool} {B : Nat × Nat × Nat} {Qa : Option AV → Hp → Prop} {pc len : Nat} {ls : Ls} {st : List AV} {σ : Hp} {K : Nat → Ls → List AV → Hp → Prop}
theorem ref_eq {z b f p p' : Nat} (hf : 1 ≤ f) (h : cidx f p = cidx f p') : cvv z b (.inr (.inr (some (f, p)))) = .ref (z + cidx f p') := by
  show Value.ref (adr z b (f, p)) = _
  rw [adr_eq hf h]
theorem fk_ne0 {f k : Nat} (h : (fkd f).1 = k) (hk : k < 90) : 1 ≤ f := (fkd_in (by omega)).2.1
theorem obj_n {f ci : Nat} (h : (fkd f).1 = ci) (h10 : ci < 10) {cc : vw_C} (hc : clsW[ci]? = some cc) : (fkd f).2 = cc.2.2 := by
  obtain ⟨h1, -, -⟩ := fkd_in (f := f) (by omega)
  obtain ⟨g1, g2, g3⟩ := (fkB f h1).1 (by omega)
  rw [g3]
  exact (ftN _ (by omega) g1 cc (by rw [h]; exact hc)).1
theorem one_getf (X : Cx me ini d p R s m args meth c) {i : Nat} (hd : decode me.2.1 pc = .ok (.getfield i, len)) (hln : lnOk pc (.getfield i) len = true)
    (h : one md ini d B me.2.2.2.1 Qa me.2.2.2.2.1 (.getfield i) pc ls st σ K) (hK : ∀ pc' ls' st' σ', K pc' ls' st' σ' → WA me p l e R s m args below meth c Qm D dT z b n0 t0 md pc' ls' st' σ') : WA me p l e R s m args below meth c Qm D dT z b n0 t0 md pc ls st σ := by
  obtain ⟨hx, hb, hml, hown, hts, hini, hfr, hlo, hdc⟩ := X
  intro H locs arr kc ks hH hS hLs hc hs
  obtain rfl : len = 3 := by simpa [lnOk] using hln
  rcases st with _ | ⟨x | x | _ | ⟨f, q⟩, r⟩
  · exact False.elim h
  · exact False.elim h
  · exact False.elim h
  · exact False.elim h
  · simp only [one] at h
    cases hf : flk me.2.2.2.2.1 i with
    | none => rw [hf] at h; exact False.elim h
    | some ck =>
      obtain ⟨ci, k⟩ := ck
      rw [hf] at h
      dsimp only at h
      cases hq : Nat.beq (fkd f).1 ci with
      | false => rw [hq] at h; exact False.elim h
      | true =>
        rw [hq, cond_true] at h
        have hk0 := beq_n hq
        obtain ⟨⟨C, T, N⟩, hcl, hkN, h1, h10, hw⟩ := flk_w hf
        obtain ⟨hin, hty, hnm⟩ := cls_k hcl h1
        obtain ⟨p', hp', ep, hl, hl1, hfa⟩ := acc_ok (by omega) hH.2.2.2.2.2.2.2 h
        have he := wsl_get md dT z b σ hl hl1 hfa
        rw [cell_o (by omega), hk0, obj_n hk0 h10 hcl] at he
        refine W.eq (g2 := F0 m pc arr (.ref (z + cidx f p') :: r.map (cvv z b))) (by rw [List.map_cons, ref_eq (fk_ne0 hk0 (by omega)) ep]) ?_
        refine va_get (v := cvv z b (rdf md σ ci f p' k)) hx hb hts hin hown hH.1 hH.2.1 _ he hcl k hkN (hts _ hw) (fun _ h9 => h9) ?_ hd (hK _ _ _ _ hp' H locs arr kc ks hH hS hLs hc hs)
        rw [List.getElem?_map, List.getElem?_range hkN]
        rfl
theorem one_iald (X : Cx me ini d p R s m args meth c) (hd : decode me.2.1 pc = .ok (.iaload, len)) (hln : lnOk pc .iaload len = true) (hz : z < s.heap.size)
    (h : one md ini d B me.2.2.2.1 Qa me.2.2.2.2.1 .iaload pc ls st σ K) (hK : ∀ pc' ls' st' σ', K pc' ls' st' σ' → WA me p l e R s m args below meth c Qm D dT z b n0 t0 md pc' ls' st' σ') : WA me p l e R s m args below meth c Qm D dT z b n0 t0 md pc ls st σ := by
  obtain ⟨hx, hb, hml, hown, hts, hini, hfr, hlo, hdc⟩ := X
  intro H locs arr kc ks hH hS hLs hc hs
  obtain rfl : len = 1 := by simpa [lnOk] using hln
  rcases st with _ | ⟨i | x | x, _ | ⟨x | x | _ | ⟨f, q⟩, r⟩⟩
  · exact False.elim h
  · exact False.elim h
  · exact False.elim h
  · exact False.elim h
  · exact False.elim h
  · rcases f with _ | f
    · have h' : vp_in i σ.1.2.2 ∧ K (pc + 1) ls (vi (hI σ 0 0 i.toNatClampNeg) :: r) σ := h
      have hX : va_X b σ.1.2.2 (hI σ 0 0) s H := hH.2.2.2.2.1
      obtain ⟨scr, g1, g2, g3, g4, g5⟩ := hX
      have hlt : i.toNatClampNeg < σ.1.2.2 := Nat.not_le.mp fun q => h'.1 (Or.inr q)
      exact W.iald (v := .int (hI σ 0 0 i.toNatClampNeg)) hx hb g1 g2 g3 (by rw [g4]; exact h'.1) (g5 _ hlt) rfl rfl hd (hK _ _ _ _ h'.2 H locs arr kc ks hH hS hLs hc hs)
    · have h' : (bif Nat.beq (fkd (f + 1)).1 20 then acc md σ (f + 1) q fun p' => vp_in i (fkd (f + 1)).2 ∧ K (pc + 1) ls (vi (hI σ (f + 1) p' i.toNatClampNeg) :: r) σ else False) := h
      cases hq : Nat.beq (fkd (f + 1)).1 20 with
      | false => rw [hq] at h'; exact False.elim h'
      | true =>
        rw [hq, cond_true] at h'
        have hk0 := beq_n hq
        obtain ⟨p', hp', ep, hl, hl1, hfa⟩ := acc_ok (by omega) hH.2.2.2.2.2.2.2 h'
        have he := wsl_get md dT z b σ hl hl1 hfa
        rw [cell_i hk0 (Or.inl rfl)] at he
        refine W.eq (g2 := F0 m pc arr (.int i :: .ref (z + cidx (f + 1) p') :: r.map (cvv z b))) (by rw [List.map_cons, List.map_cons, ref_eq (Nat.le_add_left 1 f) ep]; rfl) ?_
        exact va_iald hx hb hH.1 hH.2.1 _ 0 he rfl hp'.1 hd (hK _ _ _ _ hp'.2 H locs arr kc ks hH hS hLs hc hs)
  all_goals exact False.elim h
theorem one_cald (X : Cx me ini d p R s m args meth c) (hd : decode me.2.1 pc = .ok (.caload, len)) (hln : lnOk pc .caload len = true)
    (h : one md ini d B me.2.2.2.1 Qa me.2.2.2.2.1 .caload pc ls st σ K) (hK : ∀ pc' ls' st' σ', K pc' ls' st' σ' → WA me p l e R s m args below meth c Qm D dT z b n0 t0 md pc' ls' st' σ') : WA me p l e R s m args below meth c Qm D dT z b n0 t0 md pc ls st σ := by
  obtain ⟨hx, hb, hml, hown, hts, hini, hfr, hlo, hdc⟩ := X
  intro H locs arr kc ks hH hS hLs hc hs
  obtain rfl : len = 1 := by simpa [lnOk] using hln
  rcases st with _ | ⟨i | x | x, _ | ⟨x | x | _ | ⟨f, q⟩, r⟩⟩
  · exact False.elim h
  · exact False.elim h
  · exact False.elim h
  · exact False.elim h
  · exact False.elim h
  · have h' : (bif Nat.beq (fkd f).1 21 then acc md σ f q fun p' => vp_in i (fkd f).2 ∧ K (pc + 1) ls (vi (hI σ f p' i.toNatClampNeg) :: r) σ else False) := h
    cases hq : Nat.beq (fkd f).1 21 with
    | false => rw [hq] at h'; exact False.elim h'
    | true =>
      rw [hq, cond_true] at h'
      have hk0 := beq_n hq
      obtain ⟨p', hp', ep, hl, hl1, hfa⟩ := acc_ok (by omega) hH.2.2.2.2.2.2.2 h'
      have he := wsl_get md dT z b σ hl hl1 hfa
      rw [cell_i hk0 (Or.inr rfl)] at he
      refine W.eq (g2 := F0 m pc arr (.int i :: .ref (z + cidx f p') :: r.map (cvv z b))) (by rw [List.map_cons, List.map_cons, ref_eq (fk_ne0 hk0 (by omega)) ep]; rfl) ?_
      exact va_cald hx hb hH.1 hH.2.1 _ 1 he rfl hp'.1 hd (hK _ _ _ _ hp'.2 H locs arr kc ks hH hS hLs hc hs)
  all_goals exact False.elim h
theorem one_lald (X : Cx me ini d p R s m args meth c) (hd : decode me.2.1 pc = .ok (.laload, len)) (hln : lnOk pc .laload len = true)
    (h : one md ini d B me.2.2.2.1 Qa me.2.2.2.2.1 .laload pc ls st σ K) (hK : ∀ pc' ls' st' σ', K pc' ls' st' σ' → WA me p l e R s m args below meth c Qm D dT z b n0 t0 md pc' ls' st' σ') : WA me p l e R s m args below meth c Qm D dT z b n0 t0 md pc ls st σ := by
  obtain ⟨hx, hb, hml, hown, hts, hini, hfr, hlo, hdc⟩ := X
  intro H locs arr kc ks hH hS hLs hc hs
  obtain rfl : len = 1 := by simpa [lnOk] using hln
  rcases st with _ | ⟨i | x | x, _ | ⟨x | x | _ | ⟨f, q⟩, r⟩⟩
  · exact False.elim h
  · exact False.elim h
  · exact False.elim h
  · exact False.elim h
  · exact False.elim h
  · have h' : (bif Nat.beq (fkd f).1 22 then acc md σ f q fun p' => vp_in i (fkd f).2 ∧ K (pc + 1) ls (vl (hL σ f p' i.toNatClampNeg) :: r) σ else False) := h
    cases hq : Nat.beq (fkd f).1 22 with
    | false => rw [hq] at h'; exact False.elim h'
    | true =>
      rw [hq, cond_true] at h'
      have hk0 := beq_n hq
      obtain ⟨p', hp', ep, hl, hl1, hfa⟩ := acc_ok (by omega) hH.2.2.2.2.2.2.2 h'
      have he := wsl_get md dT z b σ hl hl1 hfa
      rw [cell_l hk0] at he
      refine W.eq (g2 := F0 m pc arr (.int i :: .ref (z + cidx f p') :: r.map (cvv z b))) (by rw [List.map_cons, List.map_cons, ref_eq (fk_ne0 hk0 (by omega)) ep]; rfl) ?_
      exact va_lald hx hb hH.1 hH.2.1 _ 2 he rfl hp'.1 hd (hK _ _ _ _ hp'.2 H locs arr kc ks hH hS hLs hc hs)
  all_goals exact False.elim h
theorem tys_r {dT : Nat → ClassId} {k : Nat} (h1 : 22 < k) (h2 : k < 26) : ∃ (t0 : Nat) (ci : Nat) (c : vw_C), (tysL dT)[t0]? = some (dT k, .object c.1) ∧ clsW[ci]? = some c ∧ okind ci = k ∧ 1 ≤ ci ∧ ci < 10 := by
  have hx : k = 23 ∨ k = 24 ∨ k = 25 := by omega
  rcases hx with rfl | rfl | rfl
  · exact ⟨3, 7, _, rfl, rfl, rfl, by omega, by omega⟩
  · exact ⟨4, 3, _, rfl, rfl, rfl, by omega, by omega⟩
  · exact ⟨5, 1, _, rfl, rfl, rfl, by omega, by omega⟩
theorem one_aald (X : Cx me ini d p R s m args meth c) (hd : decode me.2.1 pc = .ok (.aaload, len)) (hln : lnOk pc .aaload len = true)
    (h : one md ini d B me.2.2.2.1 Qa me.2.2.2.2.1 .aaload pc ls st σ K) (hK : ∀ pc' ls' st' σ', K pc' ls' st' σ' → WA me p l e R s m args below meth c Qm D dT z b n0 t0 md pc' ls' st' σ') : WA me p l e R s m args below meth c Qm D dT z b n0 t0 md pc ls st σ := by
  obtain ⟨hx, hb, hml, hown, hts, hini, hfr, hlo, hdc⟩ := X
  intro H locs arr kc ks hH hS hLs hc hs
  obtain rfl : len = 1 := by simpa [lnOk] using hln
  rcases st with _ | ⟨i | x | x, _ | ⟨x | x | _ | ⟨f, q⟩, r⟩⟩
  · exact False.elim h
  · exact False.elim h
  · exact False.elim h
  · exact False.elim h
  · exact False.elim h
  · have h' : (bif Nat.blt 22 (fkd f).1 && Nat.blt (fkd f).1 26 then acc md σ f q fun p' => vp_in i (fkd f).2 ∧ K (pc + 1) ls (.inr (.inr (rdr md σ f p' i.toNatClampNeg)) :: r) σ else False) := h
    cases hq : Nat.blt 22 (fkd f).1 && Nat.blt (fkd f).1 26 with
    | false => rw [hq] at h'; exact False.elim h'
    | true =>
      rw [hq, cond_true] at h'
      have hk0 : 22 < (fkd f).1 ∧ (fkd f).1 < 26 := by simpa using hq
      obtain ⟨p', hp', ep, hl, hl1, hfa⟩ := acc_ok (by omega) hH.2.2.2.2.2.2.2 h'
      have he := wsl_get md dT z b σ hl hl1 hfa
      rw [cell_r hk0.1] at he
      obtain ⟨t1, ci, cc, ht, -⟩ := tys_r (dT := dT) hk0.1 hk0.2
      refine W.eq (g2 := F0 m pc arr (.int i :: .ref (z + cidx f p') :: r.map (cvv z b))) (by rw [List.map_cons, List.map_cons, ref_eq (fk_ne0 rfl (by omega)) ep]; rfl) ?_
      exact va_aldq hx hb hH.1 hH.2.1 _ t1 he ht hp'.1 hd (hK _ _ _ _ hp'.2 H locs arr kc ks hH hS hLs hc hs)
  all_goals exact False.elim h
theorem one_alen (X : Cx me ini d p R s m args meth c) (hd : decode me.2.1 pc = .ok (.arraylength, len)) (hln : lnOk pc .arraylength len = true)
    (h : one md ini d B me.2.2.2.1 Qa me.2.2.2.2.1 .arraylength pc ls st σ K) (hK : ∀ pc' ls' st' σ', K pc' ls' st' σ' → WA me p l e R s m args below meth c Qm D dT z b n0 t0 md pc' ls' st' σ') : WA me p l e R s m args below meth c Qm D dT z b n0 t0 md pc ls st σ := by
  obtain ⟨hx, hb, hml, hown, hts, hini, hfr, hlo, hdc⟩ := X
  intro H locs arr kc ks hH hS hLs hc hs
  obtain rfl : len = 1 := by simpa [lnOk] using hln
  rcases st with _ | ⟨x | x | _ | ⟨f, q⟩, r⟩
  · exact False.elim h
  · exact False.elim h
  · exact False.elim h
  · exact False.elim h
  · rcases f with _ | f
    · have h' : K (pc + 1) ls (vi (Int32.ofNat σ.1.2.2) :: r) σ := h
      have hX : va_X b σ.1.2.2 (hI σ 0 0) s H := hH.2.2.2.2.1
      obtain ⟨scr, g1, g2, g3, g4, g5⟩ := hX
      exact W.alen (n := Int32.ofNat σ.1.2.2) hx hb g1 g2 (by rw [g4] <;> rfl) rfl rfl hd (hK _ _ _ _ h' H locs arr kc ks hH hS hLs hc hs)
    · have h' : (bif Nat.blt 19 (fkd (f + 1)).1 && Nat.blt (fkd (f + 1)).1 26 then acc md σ (f + 1) q fun _ => K (pc + 1) ls (vi (Int32.ofNat (fkd (f + 1)).2) :: r) σ else False) := h
      cases hq : Nat.blt 19 (fkd (f + 1)).1 && Nat.blt (fkd (f + 1)).1 26 with
      | false => rw [hq] at h'; exact False.elim h'
      | true =>
        rw [hq, cond_true] at h'
        have hk0 : 19 < (fkd (f + 1)).1 ∧ (fkd (f + 1)).1 < 26 := by simpa using hq
        obtain ⟨p', hp', ep, hl, hl1, hfa⟩ := acc_ok (by omega) hH.2.2.2.2.2.2.2 h'
        have he := wsl_get md dT z b σ hl hl1 hfa
        refine W.eq (g2 := F0 m pc arr (.ref (z + cidx (f + 1) p') :: r.map (cvv z b))) (by rw [List.map_cons, ref_eq (Nat.le_add_left 1 f) ep]) ?_
        have hx4 : (fkd (f + 1)).1 = 20 ∨ (fkd (f + 1)).1 = 21 ∨ (fkd (f + 1)).1 = 22 ∨ 22 < (fkd (f + 1)).1 := by omega
        rcases hx4 with g | g | g | g
        · rw [cell_i g (Or.inl rfl)] at he
          exact va_alen hx hb hH.1 hH.2.1 _ 0 he rfl rfl hd (hK _ _ _ _ hp' H locs arr kc ks hH hS hLs hc hs)
        · rw [cell_i g (Or.inr rfl)] at he
          exact va_alen hx hb hH.1 hH.2.1 _ 1 he rfl rfl hd (hK _ _ _ _ hp' H locs arr kc ks hH hS hLs hc hs)
        · rw [cell_l g] at he
          exact va_alen hx hb hH.1 hH.2.1 _ 2 he rfl rfl hd (hK _ _ _ _ hp' H locs arr kc ks hH hS hLs hc hs)
        · rw [cell_r g] at he
          obtain ⟨t1, ci, cc, ht, -⟩ := tys_r (dT := dT) g hk0.2
          exact va_alen hx hb hH.1 hH.2.1 _ t1 he ht rfl hd (hK _ _ _ _ hp' H locs arr kc ks hH hS hLs hc hs)
theorem one_ret (hret : HRet me p l e R s m args below meth c Qm D dT z b n0 t0 md B Qa) {ins : Instr} (hi : ins = .ireturn ∨ ins = .lreturn ∨ ins = .return_) (hd : decode me.2.1 pc = .ok (ins, len)) (hln : lnOk pc ins len = true)
    (h : one md ini d B me.2.2.2.1 Qa me.2.2.2.2.1 ins pc ls st σ K) : WA me p l e R s m args below meth c Qm D dT z b n0 t0 md pc ls st σ := by
  intro H locs arr kc ks hH hS hLs hc hs
  rcases hi with rfl | rfl | rfl
  · obtain rfl : len = 1 := by simpa [lnOk] using hln
    simp only [one] at h
    split at h
    · rename_i x hr
      exact hret (some (vi x)) σ H locs arr kc ks pc _ (by rw [hr]; exact ⟨rfl, x, rfl, h.1⟩) hd h.2.1 h.2.2 hH hS hc hs
    · rename_i x hr
      exact hret (some (vi x)) σ H locs arr kc ks pc _ (by rw [hr]; exact ⟨rfl, rfl, x, rfl⟩) hd h.1 h.2 hH hS hc hs
    · exact h.elim
  · obtain rfl : len = 1 := by simpa [lnOk] using hln
    simp only [one] at h
    split at h
    · rename_i x hr
      exact hret (some (vl x)) σ H locs arr kc ks pc _ (by rw [hr]; exact ⟨rfl, x, rfl⟩) hd h.1 h.2 hH hS hc hs
    · exact h.elim
  · obtain rfl : len = 1 := by simpa [lnOk] using hln
    simp only [one] at h
    split at h
    · rename_i hr
      exact hret none σ H locs arr kc ks pc _ (by rw [hr]; exact ⟨rfl, rfl⟩) hd h.1 h.2 hH hS hc hs
    · exact h.elim
end RD
