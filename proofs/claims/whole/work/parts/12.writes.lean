section WR
variable {me : MEnt} {ini : Bool} {d : Nat} {p : Program} {l : Launch} {e : Env} {R : Room} {s : State} {m : MethodId} {args : Array Value} {below : List Frame} {meth : Method} {c : Code} {Qm : State → Prop} {D : va_G} {dT : Nat → ClassId} {z b n0 t0 : Nat} {md : Bool} {B : Nat × Nat × Nat} {Qa : Option AV → Hp → Prop} {pc len : Nat} {ls : Ls} {st : List AV} {σ : Hp} {K : Nat → Ls → List AV → Hp → Prop}
/-- a field is written: the cell behind it -/
theorem put_at {H : Heap} {locs : List Loc} {kc ks : Nat} {arr : Array Slot} {rest : List Value} {oc i ci k a q0 : Nat} {C : String} {T : u_T} {N : Nat} {fs : List Value} {v : Value} {ty : FieldType} {ws : va_W} {tys : List (ClassId × FieldType)}
    (hx : p.tables.exec = Jvm.exec) {cc : ByteArray} (hb : c.code = cc) (hts : ∀ w ∈ wT, w.before args s = true) (hown : s.vm.findClass (ownN oc) = some m.cls) (hK : va_K D clsW tys s) (hP : va_P D clsW ws H) (he : ws[q0]? = some (a, .inr (ci, fs))) (hcl : clsW[ci]? = some (C, T, N)) (h1 : 1 ≤ ci) (hkN : k < N) (hl : k < fs.length)
    (hw : Cond.fieldLink (ownN oc) i (T k).1 (T k).2.1 (T k).2.2.1 ∈ wT) (hfin : (T k).2.2.2 = false ∨ ((T k).2.2.2 = true ∧ meth.name = "<init>" ∧ (T k).1 = ownN oc)) (hd0 : parseFieldDescriptor (T k).2.2.1 = some ty) (hn : narrow ty v = v) (hfit : fits ty v = true) (hd : decode cc pc = .ok (.putfield i, 3))
    (kk : ∀ (H1 : Heap) (o : Loc), o.base = a → H1.size = H.size → (∀ q : Nat, q ≠ a → H1[q]? = H[q]?) → va_at D clsW (a, .inr (ci, fs.set k v)) H1 → W p l e R s m args below meth c H1 (locs ++ [o]) kc ks Qm (F0 m (pc + 3) arr rest)) :
    W p l e R s m args below meth c H locs kc ks Qm (F0 m pc arr (v :: .ref a :: rest)) := by
  obtain ⟨hin, hty, hnm⟩ := cls_k hcl h1
  have hap := va_apart (own := ownN oc) hts hin (tyW ci) hty hnm hK hcl
  obtain ⟨r, g1, cell, q1, q2, q3, q4⟩ := hP q0 _ he
  obtain rfl : r = (C, T, N) := Option.some.inj (g1.symm.trans hcl)
  obtain ⟨hS, hfc, kC, hkC, hkind⟩ := hK.1 ci _ hcl
  obtain ⟨cf, kf, fi, fd, hi, hsl⟩ := hS k hkN
  have hst := (u_facts hfc hkC (u_lays hts hin hkN) hi).1
  have hlt : fd.slot < cell.slots.size := by rw [hsl]; exact k2_hasslot (q4 k hkN)
  have hlay := hts _ (hin _ (u_in_lay hkN))
  have fin : ∀ H1 : Heap, H1[a]? = some (cell.setSlot fd.slot v) → H1.size = H.size → (∀ q, q ≠ a → H1[q]? = H[q]?) → W p l e R s m args below meth c H1 (locs ++ [⟨a, fd.slot⟩]) kc ks Qm (F0 m (pc + 3) arr rest) := by
    intro H1 e1 e2 e3
    rw [hsl] at e1 ⊢
    exact kk H1 _ rfl e2 e3 ⟨_, hcl, t_OB.to (V := updV (vp_V fs) k v) ⟨_, e1, q2, q3, t_set q4 hap hkN v⟩ (fun j _ => vp_updV_set hl v j)⟩
  rcases hfin with hfin | ⟨hfin, hin2, hdecl⟩
  · unfold u_lay at hlay
    rw [if_neg (by rw [hfin]; decide)] at hlay
    have h6 := u_store hfc hkC hkind hlay hi hd0 hn hfit
    exact W.putK hx hb (f := fd) ⟨hown, hts _ hw, ⟨_, _, _, hi⟩, hst⟩ (by rw [q2]; exact h6) q1 q3 hlt rfl rfl hd fin
  · unfold u_lay at hlay
    rw [if_pos hfin] at hlay
    have hcf : m.cls = cf := by
      obtain ⟨_, _, c', _, _, _, -, -, hf', -, -, -, hown2, -⟩ := Cond.laysFinal_spec hlay
      have e1 : c' = cf := by have := hi.symm.trans hf'; simp at this; exact this.1.symm
      rw [hdecl] at hown2
      rw [← e1]; exact Option.some.inj (hown.symm.trans hown2)
    have h6 := u_fits hfc hkC hkind (Or.inr hlay) hi hd0 hn hfit
    exact W.putFinK hx hb hown (hts _ hw) hi hst hcf hin2 (by rw [q2]; exact h6) q1 q3 hlt rfl rfl hd fin
theorem set_row {N k : Nat} {g g' : Nat → Value} {v : Value} (hk : g' k = v) (hj : ∀ j, j ≠ k → g' j = g j) : (List.range N).map g' = ((List.range N).map g).set k v := by
  apply List.ext_getElem?
  intro j
  by_cases hjk : j = k
  · subst hjk
    by_cases hN : j < N
    · rw [List.getElem?_set_self (by simpa using hN), List.getElem?_map, List.getElem?_range hN]
      show some (g' j) = _
      rw [hk]
    · rw [List.getElem?_eq_none (by simpa using hN), List.getElem?_eq_none (by simpa using hN)]
  · rw [List.getElem?_set_ne (fun q => hjk q.symm), List.getElem?_map, List.getElem?_map]
    by_cases hN : j < N
    · rw [List.getElem?_range hN]
      show some (g' j) = some (g j)
      rw [hj j hjk]
    · rw [List.getElem?_eq_none (by simpa using hN)]; rfl
theorem fk_21 {f : Nat} (h : (fkd f).1 = 21) : f ≠ 0 := fun q => by subst q; exact absurd h (by decide)
theorem hI0_setI {σ : Hp} {f p k : Nat} {x : Int32} (hf : 1 ≤ f) : hI (setI σ f p k x) 0 0 = hI σ 0 0 := hI_setI_ne (a := (0, 0)) (fun q => by cases q; omega)
theorem ch_setI {σ : Hp} {f p k : Nat} {x : Int32} (h : ∀ f p k, (fkd f).1 = 21 → fits .char (.int (hI σ f p k)) = true) (hx : (fkd f).1 = 21 → fits .char (.int x) = true) : ∀ f' p' k', (fkd f').1 = 21 → fits .char (.int (hI (setI σ f p k x) f' p' k')) = true := by
  intro f' p' k' h21
  show fits .char (.int (if f' = f ∧ p' = p ∧ k' = k then x else σ.2.1 f' p' k')) = true
  split
  · rename_i q
    exact hx (by rw [← q.1]; exact h21)
  · exact h f' p' k' h21
theorem ne_of_fk {f g : Nat} (h : (fkd f).1 ≠ (fkd g).1) : f ≠ g := fun q => h (by rw [q])
theorem one_putf (X : Cx me ini d p R s m args meth c) {i : Nat} (hd : decode me.2.1 pc = .ok (.putfield i, len)) (hln : lnOk pc (.putfield i) len = true)
    (h : one md ini d B me.2.2.2.1 Qa me.2.2.2.2.1 (.putfield i) pc ls st σ K) (hK : ∀ pc' ls' st' σ', K pc' ls' st' σ' → WA me p l e R s m args below meth c Qm D dT z b n0 t0 md pc' ls' st' σ') : WA me p l e R s m args below meth c Qm D dT z b n0 t0 md pc ls st σ := by
  obtain ⟨hx, hb, hml, hown, hts, hini, hfr, hlo, hdc⟩ := X
  intro H locs arr kc ks hH hS hLs hc hs
  obtain rfl : len = 3 := by simpa [lnOk] using hln
  simp only [one] at h
  cases hf : flk me.2.2.2.2.1 i with
  | none => rw [hf] at h; exact False.elim h
  | some ck =>
    obtain ⟨ci, k⟩ := ck
    rw [hf] at h
    dsimp only at h
    cases hfn : (! ffin ci k) || (ini && Nat.beq me.2.2.2.2.1 ci) with
    | false => rw [hfn] at h; exact False.elim h
    | true =>
      rw [hfn, cond_true] at h
      obtain ⟨⟨C, T, N⟩, hcl, hkN, h1, h10, hw⟩ := flk_w hf
      obtain ⟨hft, hff, hdecl⟩ := ftK ci h10 _ hcl h1 k hkN
      have hCn := (ftN ci h10 h1 _ hcl).2
      obtain ⟨hin, hty, hnm⟩ := cls_k hcl h1
      have hfin : (T k).2.2.2 = false ∨ ((T k).2.2.2 = true ∧ meth.name = "<init>" ∧ (T k).1 = ownN me.2.2.2.2.1) := by
        have hff : ffin ci k = (T k).2.2.2 := hff
        have hdecl : (T k).1 = C := hdecl
        have hCn : C = ownN ci := hCn
        cases hb1 : (T k).2.2.2 with
        | false => exact Or.inl rfl
        | true =>
          rw [hff, hb1] at hfn
          simp only [Bool.not_true, Bool.false_or, Bool.and_eq_true] at hfn
          exact Or.inr ⟨rfl, hini hfn.1, by rw [hdecl, hCn, beq_n hfn.2]⟩
      have hd0 := hty k hkN
      have hft : ftyp ci k = tcode (tyW ci k) := hft
      split at h
      · rename_i ht
        split at h
        · rename_i st0 x f q r
          cases hq : Nat.beq (fkd f).1 ci with
          | false => rw [hq] at h; exact False.elim h
          | true =>
            rw [hq, cond_true] at h
            have hk0 := beq_n hq
            obtain ⟨p', hp', ep, hl, hl1, hfa⟩ := acc_ok (by omega) hH.2.2.2.2.2.2.2 h
            have he := wsl_get md dT z b σ hl hl1 hfa
            have hN := obj_n hk0 h10 hcl
            rw [cell_o (by omega), hk0, hN] at he
            have hf1 := fk_ne0 hk0 (by omega)
            have htt : tyW ci k = .int := by
              rw [hft] at ht
              cases hq2 : tyW ci k <;> rw [hq2] at ht <;> first | rfl | cases ht
            refine W.eq (g2 := F0 m pc arr (.int x :: .ref (z + cidx f p') :: r.map (cvv z b))) (by rw [List.map_cons, List.map_cons, ref_eq hf1 ep]; rfl) ?_
            refine put_at hx hb hts hown hH.1 hH.2.1 he hcl h1 hkN (by simpa using hkN) hw hfin hd0 (by rw [htt]; rfl) (by rw [htt]; rfl) hd (fun H1 o ho z1 oq hat => ?_)
            have hrow : cellE md dT z b (setI σ f p' k x) (f, p') = .inr (ci, ((List.range N).map fun j => cvv z b (rdf md σ ci f p' j)).set k (.int x)) := by
              rw [cell_o (by omega), hk0, hN]
              congr 2
              refine set_row ?_ ?_
              · simp only [rdf, ht, hI_setI, upd, if_true]; rfl
              · intro j hj
                simp only [rdf, hI_setI, upd, if_neg hj]; rfl
            refine hK _ _ _ _ hp' H1 _ arr kc ks (HI_write hH hl hl1 hfa rfl (fun a ha => cellE_congr (hI_setI_ne ha) rfl rfl) (ch_setI hH.2.2.2.1 (fun q => by omega)) (hI0_setI hf1) z1 oq (by rw [hrow]; exact hat)) ?_ hLs hc hs
            obtain ⟨ob, ok⟩ := o
            cases ho
            exact hS.put z1 oq (by show z < z + cidx f p'; omega)
        · exact h.elim
      · rename_i ht
        split at h
        · rename_i st0 x f q r
          cases hq : Nat.beq (fkd f).1 ci with
          | false => rw [hq] at h; exact False.elim h
          | true =>
            rw [hq, cond_true] at h
            obtain ⟨hx01, h⟩ := h
            have hk0 := beq_n hq
            obtain ⟨p', hp', ep, hl, hl1, hfa⟩ := acc_ok (by omega) hH.2.2.2.2.2.2.2 h
            have he := wsl_get md dT z b σ hl hl1 hfa
            have hN := obj_n hk0 h10 hcl
            rw [cell_o (by omega), hk0, hN] at he
            have hf1 := fk_ne0 hk0 (by omega)
            have htt : tyW ci k = .boolean := by
              rw [hft] at ht
              cases hq2 : tyW ci k <;> rw [hq2] at ht <;> first | rfl | cases ht
            refine W.eq (g2 := F0 m pc arr (.int x :: .ref (z + cidx f p') :: r.map (cvv z b))) (by rw [List.map_cons, List.map_cons, ref_eq hf1 ep]; rfl) ?_
            refine put_at hx hb hts hown hH.1 hH.2.1 he hcl h1 hkN (by simpa using hkN) hw hfin hd0 (by rw [htt]; rcases hx01 with rfl | rfl <;> decide) (by rw [htt]; rcases hx01 with rfl | rfl <;> decide) hd (fun H1 o ho z1 oq hat => ?_)
            have hrow : cellE md dT z b (setI σ f p' k x) (f, p') = .inr (ci, ((List.range N).map fun j => cvv z b (rdf md σ ci f p' j)).set k (.int x)) := by
              rw [cell_o (by omega), hk0, hN]
              congr 2
              refine set_row ?_ ?_
              · simp only [rdf, ht, hI_setI, upd, if_true]; rfl
              · intro j hj
                simp only [rdf, hI_setI, upd, if_neg hj]; rfl
            refine hK _ _ _ _ hp' H1 _ arr kc ks (HI_write hH hl hl1 hfa rfl (fun a ha => cellE_congr (hI_setI_ne ha) rfl rfl) (ch_setI hH.2.2.2.1 (fun q => by omega)) (hI0_setI hf1) z1 oq (by rw [hrow]; exact hat)) ?_ hLs hc hs
            obtain ⟨ob, ok⟩ := o
            cases ho
            exact hS.put z1 oq (by show z < z + cidx f p'; omega)
        · exact h.elim
      · rename_i ht
        split at h
        · rename_i st0 x f q r
          cases hq : Nat.beq (fkd f).1 ci with
          | false => rw [hq] at h; exact False.elim h
          | true =>
            rw [hq, cond_true] at h
            have hk0 := beq_n hq
            obtain ⟨p', hp', ep, hl, hl1, hfa⟩ := acc_ok (by omega) hH.2.2.2.2.2.2.2 h
            have he := wsl_get md dT z b σ hl hl1 hfa
            have hN := obj_n hk0 h10 hcl
            rw [cell_o (by omega), hk0, hN] at he
            have hf1 := fk_ne0 hk0 (by omega)
            have htt : tyW ci k = .long := by
              rw [hft] at ht
              cases hq2 : tyW ci k <;> rw [hq2] at ht <;> first | rfl | cases ht
            refine W.eq (g2 := F0 m pc arr (.long x :: .ref (z + cidx f p') :: r.map (cvv z b))) (by rw [List.map_cons, List.map_cons, ref_eq hf1 ep]; rfl) ?_
            refine put_at hx hb hts hown hH.1 hH.2.1 he hcl h1 hkN (by simpa using hkN) hw hfin hd0 (by rw [htt]; rfl) (by rw [htt]; rfl) hd (fun H1 o ho z1 oq hat => ?_)
            have hrow : cellE md dT z b (setL σ f p' k x) (f, p') = .inr (ci, ((List.range N).map fun j => cvv z b (rdf md σ ci f p' j)).set k (.long x)) := by
              rw [cell_o (by omega), hk0, hN]
              congr 2
              refine set_row ?_ ?_
              · simp only [rdf, ht, hL_setL, vp_updL, if_true]; rfl
              · intro j hj
                simp only [rdf, hL_setL, vp_updL, if_neg hj]; rfl
            refine hK _ _ _ _ hp' H1 _ arr kc ks (HI_write hH hl hl1 hfa rfl (fun a ha => cellE_congr rfl (hL_setL_ne ha) rfl) hH.2.2.2.1 rfl z1 oq (by rw [hrow]; exact hat)) ?_ hLs hc hs
            obtain ⟨ob, ok⟩ := o
            cases ho
            exact hS.put z1 oq (by show z < z + cidx f p'; omega)
        · exact h.elim
      · rename_i ht
        split at h
        · rename_i st0 x f q r
          cases hq : Nat.beq (fkd f).1 ci with
          | false => rw [hq] at h; exact False.elim h
          | true =>
            rw [hq, cond_true] at h
            have hk0 := beq_n hq
            obtain ⟨p', hp', ep, hl, hl1, hfa⟩ := acc_ok (by omega) hH.2.2.2.2.2.2.2 h
            have hp2 : (md = true → srf f p' k = none) ∧ K (pc + 3) ls r (setR σ f p' k x) := by
              cases md with
              | false => exact ⟨fun q => (by cases q), hp'⟩
              | true =>
                cases hsr : srf f p' k with
                | none => rw [hsr] at hp'; exact ⟨fun _ => rfl, hp'⟩
                | some a => rw [hsr] at hp'; exact hp'.elim
            have he := wsl_get md dT z b σ hl hl1 hfa
            have hN := obj_n hk0 h10 hcl
            rw [cell_o (by omega), hk0, hN] at he
            have hf1 := fk_ne0 hk0 (by omega)
            have htt : (∃ n, tyW ci k = .object n) ∨ ∃ t, tyW ci k = .array t := by
              rw [hft] at ht
              cases hq2 : tyW ci k <;> rw [hq2] at ht <;> first | exact Or.inl ⟨_, rfl⟩ | exact Or.inr ⟨_, rfl⟩ | cases ht
            refine W.eq (g2 := F0 m pc arr (cvv z b (.inr (.inr x)) :: .ref (z + cidx f p') :: r.map (cvv z b))) (by rw [List.map_cons, List.map_cons, ref_eq hf1 ep]) ?_
            refine put_at hx hb hts hown hH.1 hH.2.1 he hcl h1 hkN (by simpa using hkN) hw hfin hd0 (by rcases htt with ⟨n, g⟩ | ⟨n, g⟩ <;> rw [g] <;> cases x <;> rfl) (by rcases htt with ⟨n, g⟩ | ⟨n, g⟩ <;> rw [g] <;> cases x <;> rfl) hd (fun H1 o ho z1 oq hat => ?_)
            have hrow : cellE md dT z b (setR σ f p' k x) (f, p') = .inr (ci, ((List.range N).map fun j => cvv z b (rdf md σ ci f p' j)).set k (cvv z b (.inr (.inr x)))) := by
              rw [cell_o (by omega), hk0, hN]
              congr 2
              refine set_row ?_ ?_
              · cases md with
                | false => simp only [rdf, ht, rdr, hR_setR, va_up, if_true]
                | true => simp only [rdf, ht, rdr, hp2.1 rfl, hR_setR, va_up, if_true]
              · intro j hj
                simp only [rdf, rdr, hR_setR, va_up, if_neg hj]; rfl
            refine hK _ _ _ _ hp2.2 H1 _ arr kc ks (HI_write hH hl hl1 hfa rfl (fun a ha => cellE_congr rfl rfl (hR_setR_ne ha)) hH.2.2.2.1 rfl z1 oq (by rw [hrow]; exact hat)) ?_ hLs hc hs
            obtain ⟨ob, ok⟩ := o
            cases ho
            exact hS.put z1 oq (by show z < z + cidx f p'; omega)
        · exact h.elim
      · exact h.elim
end WR
