def slW : Cond → Option MethodName := fun w => match w with
  | .native y => some y
  | _ => none
set_option maxRecDepth 100000 in
theorem slW_ok : lw_tbl.filterMap slW = [arraycopyName] := by rfl
theorem w_native : Cond.native arraycopyName ∈ wT := by
  obtain ⟨w, hw, e⟩ := mem_sel slW_ok (a := arraycopyName) (by simp)
  cases w <;> simp [slW] at e
  subst e
  exact List.mem_filter.mpr ⟨hw, rfl⟩
set_option maxRecDepth 100000 in
theorem jdkS : slS_l.elem arraycopyName = true ∧ slS_l.elem Lib.Math.min.name = true ∧ slS_l.elem Lib.Math.abs.name = true := by decide +kernel
set_option maxRecDepth 100000 in
theorem jdkC1 : (Lib.Math.min.name, Lib.Math.min.code, 2, some FieldType.int) ∈ slC_l := List.mem_of_getElem? (i := 100) rfl
set_option maxRecDepth 100000 in
theorem jdkC2 : (Lib.Math.abs.name, Lib.Math.abs.code, 1, some FieldType.int) ∈ slC_l := List.mem_of_getElem? (i := 95) rfl
set_option maxRecDepth 100000 in
theorem jdkC3 : (objectInit, (⟨#[0xb1]⟩ : ByteArray), 1, (none : Option FieldType)) ∈ slC_l := List.mem_of_getElem? (i := 1) rfl
set_option maxRecDepth 100000 in
theorem jdkI : slI_l.elem objectInit = true := by decide +kernel
section IV
variable {me : MEnt} {ini : Bool} {d : Nat} {p : Program} {l : Launch} {e : Env} {R : Room} {s : State} {m : MethodId} {args : Array Value} {below : List Frame} {meth : Method} {c : Code} {Qm : State → Prop} {D : va_G} {dT : Nat → ClassId} {z b n0 t0 : Nat} {md : Bool} {B : Nat × Nat × Nat} {Qa : Option AV → Hp → Prop} {pc len : Nat} {ls : Ls} {st : List AV} {σ : Hp} {K : Nat → Ls → List AV → Hp → Prop}
theorem copy_at {α : Type} (mk : α → Value) {ty : FieldType} (hprim : refKind ty = false) {H : Heap} {locs : List Loc} {arr : Array Slot} {kc ks oc i a0 a1 n0 n1 : Nat} {c0 c1 : ClassId} {f g : Nat → α} {sp dp n : Int32} {rest : List Value}
    (hx : p.tables.exec = Jvm.exec) {cc : ByteArray} (hb : c.code = cc) (hml : c.maxLocals = arr.size) (hown : s.vm.findClass (ownN oc) = some m.cls) (hts : ∀ w ∈ wT, w.before args s = true) (hlink : Cond.methodLink (ownN oc) i arraycopyName ∈ wT)
    (hc0 : H[a0]? = some (arrV c0 n0 fun j => mk (f j))) (hc1 : H[a1]? = some (arrV c1 n1 fun j => mk (g j))) (ht0 : ArrOfT s c0 ty) (ht1 : ArrOfT s c1 ty) (h1 : ¬ sp < 0) (h2 : ¬ dp < 0) (h3 : ¬ n < 0) (h4 : sp.toNatClampNeg + n.toNatClampNeg ≤ n0) (h5 : dp.toNatClampNeg + n.toNatClampNeg ≤ n1)
    (hfit : ∀ j, fits ty (mk (f j)) = true) (htk : ∀ (U : State) (dc : ClassId) (x : α), U.takes dc (mk x)) (hframes : 1 ≤ R.frames) (hlocals : (rest.map fun v => v.category).sum + 18 ≤ R.locals) (hd : decode cc pc = .ok (.invokestatic i, 3))
    (kk : ∀ (H1 : Heap) (locs1 : List Loc), H1.size = H.size → (∀ q : Nat, q ≠ a1 → H1[q]? = H[q]?) → H1[a1]? = some (arrV c1 n1 fun j => mk (va_cpy f g sp.toNatClampNeg dp.toNatClampNeg n.toNatClampNeg j)) → (∀ o ∈ locs1, o ∈ locs ∨ o.base = a1) → W p l e R s m args below meth c H1 locs1 kc ks Qm (F0 m (pc + 3) arr rest)) :
    W p l e R s m args below meth c H locs kc ks Qm (F0 m pc arr (.int n :: .int dp :: .ref a1 :: .int sp :: .ref a0 :: rest)) := by
  have nn : ∀ y : Int32, ¬ y < 0 → y.toInt = (y.toNatClampNeg : Int) := by
    intro y hy
    have hy0 : (0 : Int) ≤ y.toInt := by
      have := Int32.not_lt.mp hy
      simpa using Int32.le_iff_toInt_le.mp this
    show y.toInt = ((y.toInt.toNat : Nat) : Int)
    omega
  intro T hT X
  obtain ⟨-, k0, hk0, cm0, hkk0⟩ := ht0 n0 (fun j => mk (f j))
  obtain ⟨-, k1, hk1, cm1, hkk1⟩ := ht1 n1 (fun j => mk (g j))
  obtain ⟨vm', X', step⟩ := X.arraycopy hx hown (hts _ hlink) (hts _ w_native) (hts _ (w_static (List.elem_iff.mp jdkS.1))) (hts _ (w_ini inN2.1)) (src := a0) (dst := a1) (srcPos := sp) (destPos := dp) (n := n) (by rw [hT]; exact hc0) (by rw [hT]; exact hc1)
    (fun _ h => by cases h) (fun _ h => by cases h) (fun h => by cases h) (fun h => by cases h) hk0 hk1 hkk0 hkk1 (by simp [hprim]) h1 h2 h3
    (by rw [nn sp h1, nn n h3, arrV_size]; omega) (by rw [nn dp h2, nn n h3, arrV_size]; omega)
    (fun vm₁ _ i hi => by
      have e1 : (arrV c0 n0 fun j => mk (f j)).slots.getD (sp.toNatClampNeg + i) .null = mk (f (sp.toNatClampNeg + i)) := by
        rw [Array.getD_eq_getD_getElem?, arrV_read _ _ (by omega)]
        rfl
      rw [e1]
      exact ⟨hfit _, htk _ _ _⟩)
    (g := F0 m pc arr (.int n :: .int dp :: .ref a1 :: .int sp :: .ref a0 :: rest)) rfl (by rw [hml]) (rest := rest) rfl (by rw [hb]; exact hd) hframes (by show 2 * 0 + _ + (7 + 11) ≤ _; omega)
  have e1 : copied (arrV c0 n0 fun j => mk (f j)) (arrV c1 n1 fun j => mk (g j)) sp dp n = arrV c1 n1 fun j => mk (va_cpy f g sp.toNatClampNeg dp.toNatClampNeg n.toNatClampNeg j) := va_copied mk c0 c1 f g h4
  rw [e1] at X' step
  have hl : a1 < H.size := (Array.getElem?_eq_some_iff.mp hc1).1
  have hheap : ((T.setVm vm').setCell a1 (arrV c1 n1 fun j => mk (va_cpy f g sp.toNatClampNeg dp.toNatClampNeg n.toNatClampNeg j))).heap = H.setIfInBounds a1 (arrV c1 n1 fun j => mk (va_cpy f g sp.toNatClampNeg dp.toNatClampNeg n.toNatClampNeg j)) := by rw [← hT]; rfl
  obtain ⟨t, a2, b2⟩ := kk _ _ (by simp) (fun q hq => by simp [Array.getElem?_setIfInBounds, Ne.symm hq]) (by simp [Array.getElem?_setIfInBounds, hl]) (fun o ho => by
      rcases List.mem_append.mp ho with g1 | g1
      · exact Or.inl g1
      · obtain ⟨y, -, hy⟩ := List.mem_map.mp g1
        rw [← hy]
        exact Or.inr rfl) _ hheap X'
  exact ⟨t, step t a2, b2⟩
theorem cpI_ne {σ : Hp} {f p sp g q dp n : Nat} {a : Nat × Nat} (h : a ≠ (g, q)) : hI (cpI σ f p sp g q dp n) a.1 a.2 = hI σ a.1 a.2 := by
  funext j
  show (if a.1 = g ∧ a.2 = q then _ else σ.2.1 a.1 a.2 j) = _
  rw [if_neg fun w => h (Prod.ext w.1 w.2)]; rfl
theorem cpL_ne {σ : Hp} {f p sp g q dp n : Nat} {a : Nat × Nat} (h : a ≠ (g, q)) : hL (cpL σ f p sp g q dp n) a.1 a.2 = hL σ a.1 a.2 := by
  funext j
  show (if a.1 = g ∧ a.2 = q then _ else σ.2.2.1 a.1 a.2 j) = _
  rw [if_neg fun w => h (Prod.ext w.1 w.2)]; rfl
theorem cpI_at (σ : Hp) (f p sp g q dp n : Nat) : hI (cpI σ f p sp g q dp n) g q = va_cpy (hI σ f p) (hI σ g q) sp dp n := by
  funext j
  show (if g = g ∧ q = q then _ else _) = _
  rw [if_pos ⟨rfl, rfl⟩]; rfl
theorem cpL_at (σ : Hp) (f p sp g q dp n : Nat) : hL (cpL σ f p sp g q dp n) g q = va_cpy (hL σ f p) (hL σ g q) sp dp n := by
  funext j
  show (if g = g ∧ q = q then _ else _) = _
  rw [if_pos ⟨rfl, rfl⟩]; rfl
theorem S_more {A : Nat → Prop} {H0 H H1 : Heap} {locs locs1 : List Loc} {a : Nat} (h : va_S A H0 H locs) (z1 : H1.size = H.size) (oq : ∀ q : Nat, q ≠ a → H1[q]? = H[q]?) (ha : A a) (hl : ∀ o ∈ locs1, o ∈ locs ∨ o.base = a) : va_S A H0 H1 locs1 := by
  refine ⟨by rw [z1]; exact h.1, fun q g1 g2 => ?_, fun o ho => ?_⟩
  · rw [oq q fun w => g2 (by rw [w]; exact ha)]
    exact h.2.1 q g1 g2
  · rcases hl o ho with g | g
    · exact h.2.2 o g
    · rw [g]; exact ha
theorem one_inv (X : Cx me ini d p R s m args meth c) (hB1 : B.1 ≤ n0 + R.cells) (hB2 : B.2.1 ≤ t0 + R.slots) {i : Nat} (hd : decode me.2.1 pc = .ok (.invokevirtual i, len)) (hln : lnOk pc (.invokevirtual i) len = true)
    (h : one md ini d B me.2.2.2.1 Qa me.2.2.2.2.1 (.invokevirtual i) pc ls st σ K) (hK : ∀ pc' ls' st' σ', K pc' ls' st' σ' → WA me p l e R s m args below meth c Qm D dT z b n0 t0 md pc' ls' st' σ') : WA me p l e R s m args below meth c Qm D dT z b n0 t0 md pc ls st σ := by
  have X0 := X
  obtain ⟨hx, hb, hml, hown, hts, hini, hfr, hlo, hdc⟩ := X
  intro H locs arr kc ks hH hS hLs hc hs
  obtain rfl : len = 3 := by simpa [lnOk] using hln
  simp only [one] at h
  split at h
  · rename_i mj hm
    split at h
    · rename_i f q r hst
      cases hq : Nat.beq (fkd f).1 (ocT.getD mj 99) with
      | false => rw [hq] at h; exact False.elim h
      | true =>
        rw [hq, cond_true] at h
        have hk0 := beq_n hq
        have hk90 : (fkd f).1 < 90 := by
          rcases Nat.lt_or_ge f 266 with w | w
          · have hne : ∀ f, f < 266 → (fkd f).1 < 90 ∨ (fkd f).1 = 98 ∨ (fkd f).1 = 99 := by decide +kernel
            have ho : ∀ k, (ocT.getD k 99) ≠ 98 := by
              have h1 : ocT.all (fun x => decide (x ≠ 98)) = true := by decide +kernel
              intro k
              rw [List.getD_eq_getElem?_getD]
              cases hk : ocT[k]? with
              | none => show (99 : Nat) ≠ 98; decide
              | some y => simpa using List.all_eq_true.mp h1 y (List.mem_of_getElem? hk)
            rcases hne f w with g | g | g
            · exact g
            · exact absurd (hk0.symm.trans g) (ho mj)
            · exfalso
              have hidx := ((mk_k hm).1 rfl).1
              have h1 : idxI.all (fun x => decide (ocT.getD x 99 ≠ 99)) = true := by decide +kernel
              have := List.all_eq_true.mp h1 mj (List.elem_iff.mp hidx)
              simp only [decide_eq_true_eq] at this
              exact this (hk0.symm.trans g)
          · exfalso
            have hidx := ((mk_k hm).1 rfl).1
            have h1 : idxI.all (fun x => decide (ocT.getD x 99 ≠ 99)) = true := by decide +kernel
            have := List.all_eq_true.mp h1 mj (List.elem_iff.mp hidx)
            simp only [decide_eq_true_eq] at this
            exact this (hk0.symm.trans (fkd_out w))
        obtain ⟨p', hp', ep, hl, hl1, hfa⟩ := acc_ok hk90 hH.2.2.2.2.2.2.2 h
        have hf1 := (fkd_in hk90).2.1
        cases d with
        | zero => exact hp'.elim
        | succ d' =>
          unfold callP at hp'
          dsimp only at hp'
          cases hw8 : Nat.ble (stw r) 8 with
          | false => rw [hw8] at hp'; exact hp'.elim
          | true =>
            rw [hw8, cond_true] at hp'
            have hw8 : stw r ≤ 8 := Nat.le_of_ble_eq_true hw8
            have hdec : st = st.take (pcT.getD mj 0) ++ .inr (.inr (some (f, q))) :: r := by rw [← hst, List.take_append_drop]
            have hlen : (st.take (pcT.getD mj 0)).length = pcT.getD mj 0 := by
              rw [List.length_take]
              have : st.length = (st.take (pcT.getD mj 0)).length + (r.length + 1) := by
                conv => lhs; rw [hdec]
                simp
              rw [List.length_take] at this
              omega
            refine call_go (mj := mj) (d' := d') (as := vr f p' :: (st.take (pcT.getD mj 0)).reverse) (rest := r) rfl hB1 hB2 hc hs hS hp' ?_ (fun st' σ' hk H1 locs1 kc' ks' hHI hS1 hc' hs' => hK _ _ _ _ hk H1 locs1 arr kc' ks' hHI hS1 hLs hc' hs')
            intro B' Q' mj' hmj y1 y2 y3 y4 hM
            obtain ⟨-, -, hoc, hcls, hc10⟩ := mt_d hmj
            have hci : (fkd f).1 = mj'.2.2.2.2.1 := hk0.trans hoc
            have h1 : 1 ≤ (fkd f).1 := ((fkB f (fkd_in hk90).1).1 (by omega)).1
            obtain ⟨cc, hcl⟩ : ∃ cc, clsW[(fkd f).1]? = some cc := ⟨_, List.getElem?_eq_getElem (by show _ < 10; omega)⟩
            have hCn := (ftN _ (by omega) h1 cc hcl).2
            have he := wsl_get md dT z b σ hl hl1 hfa
            rw [cell_o (by omega)] at he
            have hC : mj'.1.cls = cc.1 := by rw [hcls, hCn, hci]
            have hkk := mk_k hm
            have hstk : (F0 m pc arr (st.map (cvv z b))).stack = (((st.take (pcT.getD mj 0)).reverse).map (cvv z b)).reverse ++ .ref (z + cidx f p') :: r.map (cvv z b) := by
              show st.map (cvv z b) = _
              conv => lhs; rw [hdec]
              rw [List.map_append, List.map_cons, ref_eq hf1 ep, List.map_reverse, List.reverse_reverse]
            refine va_runV (Ts := wT) (own := ownN me.2.2.2.2.1) (C := mj'.1.cls) (n := pcT.getD mj 0) ⟨hx, hb, hml, hown, hts⟩ (hM l D dT z b) ⟨callB_w X0 hmj (mlk_w hm (by omega)), by rw [← mtN_eq hmj]; exact hts _ (mem_i (hkk.1 rfl).1), by rw [← mtN_eq hmj]; exact hts _ (mem_v (hkk.1 rfl).2)⟩ ⟨pc_blind, ?_, ?_⟩ rfl (by rw [List.length_map, List.length_reverse]; exact hlen) hLs.1 hstk (by show 2 * 0 + _ ≤ 8; rw [stw_cvv]; omega) hd ⟨y3, y4⟩
            · rw [hC]
              exact va_recv hH.1 hH.2.1 hcl he
            · intro U hU hW
              refine ⟨?_, by rw [hU]; exact HI_moved hW.alike hH⟩
              rw [List.map_cons, ref_eq (z := z) (b := b) hf1 rfl]
    · exact h.elim
  · exact h.elim
theorem one_invS (X : Cx me ini d p R s m args meth c) (hB1 : B.1 ≤ n0 + R.cells) (hB2 : B.2.1 ≤ t0 + R.slots) {i : Nat} (hd : decode me.2.1 pc = .ok (.invokestatic i, len)) (hln : lnOk pc (.invokestatic i) len = true)
    (h : one md ini d B me.2.2.2.1 Qa me.2.2.2.2.1 (.invokestatic i) pc ls st σ K) (hK : ∀ pc' ls' st' σ', K pc' ls' st' σ' → WA me p l e R s m args below meth c Qm D dT z b n0 t0 md pc' ls' st' σ') : WA me p l e R s m args below meth c Qm D dT z b n0 t0 md pc ls st σ := by
  have X0 := X
  obtain ⟨hx, hb, hml, hown, hts, hini, hfr, hlo, hdc⟩ := X
  intro H locs arr kc ks hH hS hLs hc hs
  obtain rfl : len = 3 := by simpa [lnOk] using hln
  have stat : ∀ mj, mlk me.2.2.2.2.1 i = some (1, mj) ∨ mlk me.2.2.2.2.1 i = some (3, mj) → (bif Nat.ble (pcT.getD mj 0) st.length then callP md d mj (retT.getD mj none) (st.take (pcT.getD mj 0)).reverse σ B (st.drop (pcT.getD mj 0)) (fun st' σ' => K (pc + 3) ls st' σ') else False) → W p l e R s m args below meth c H locs kc ks Qm (F0 m pc arr (st.map (cvv z b))) := by
    intro mj hm hp'
    have hlen : pcT.getD mj 0 ≤ st.length := by
      cases hq : Nat.ble (pcT.getD mj 0) st.length with
      | false => rw [hq] at hp'; exact hp'.elim
      | true => exact Nat.le_of_ble_eq_true hq
    rw [show Nat.ble (pcT.getD mj 0) st.length = true from Nat.ble_eq_true_of_le hlen, cond_true] at hp'
    cases d with
    | zero => exact hp'.elim
    | succ d' =>
      unfold callP at hp'
      dsimp only at hp'
      cases hw8 : Nat.ble (stw (st.drop (pcT.getD mj 0))) 8 with
      | false => rw [hw8] at hp'; exact hp'.elim
      | true =>
        rw [hw8, cond_true] at hp'
        have hw8 : stw (st.drop (pcT.getD mj 0)) ≤ 8 := Nat.le_of_ble_eq_true hw8
        refine call_go (mj := mj) (d' := d') (as := (st.take (pcT.getD mj 0)).reverse) (rest := st.drop (pcT.getD mj 0)) rfl hB1 hB2 hc hs hS hp' ?_ (fun st' σ' hk H1 locs1 kc' ks' hHI hS1 hc' hs' => hK _ _ _ _ hk H1 locs1 arr kc' ks' hHI hS1 hLs hc' hs')
        intro B' Q' mj' hmj y1 y2 y3 y4 hM
        have hstk : (F0 m pc arr (st.map (cvv z b))).stack = (((st.take (pcT.getD mj 0)).reverse).map (cvv z b)).reverse ++ (st.drop (pcT.getD mj 0)).map (cvv z b) := by
          show st.map (cvv z b) = _
          rw [List.map_reverse, List.reverse_reverse, ← List.map_append, List.take_append_drop]
        have hp : PreS s H (fun v U => v = (((st.take (pcT.getD mj 0)).reverse).map (cvv z b)).toArray ∧ HI md D dT z b σ U U.heap) (((st.take (pcT.getD mj 0)).reverse).map (cvv z b)) := ⟨pc_blind, fun U hU hW => ⟨rfl, by rw [hU]; exact HI_moved hW.alike hH⟩⟩
        rcases hm with hm | hm
        · exact va_runS (Ts := wT) (own := ownN me.2.2.2.2.1) (n := pcT.getD mj 0) ⟨hx, hb, hml, hown, hts⟩ (hM l D dT z b) ⟨callB_w X0 hmj (mlk_w hm (by omega)), by rw [← mtN_eq hmj]; exact hts _ (mem_s ((mk_k hm).2.1 (Or.inl rfl)))⟩ hp rfl (by rw [List.length_map, List.length_reverse, List.length_take]; omega) hLs.1 hstk (by show 2 * 0 + _ ≤ 8; rw [stw_cvv]; omega) hd ⟨y3, y4⟩
        · exact va_runSN (Ts := wT) (own := ownN me.2.2.2.2.1) (n := pcT.getD mj 0) ⟨hx, hb, hml, hown, hts⟩ (hM l D dT z b) ⟨callN_w X0 hmj (mlk_n hm (Or.inl rfl)), by rw [← mtN_eq hmj]; exact hts _ (mem_s ((mk_k hm).2.1 (Or.inr rfl))), trivial⟩ hp rfl (by rw [List.length_map, List.length_reverse, List.length_take]; omega) hLs.1 hstk (by show 2 * 0 + _ ≤ 8; rw [stw_cvv]; omega) hd ⟨y3, y4⟩
  simp only [one] at h
  split at h
  · rename_i mj hm
    exact stat mj (Or.inl hm) h
  · rename_i mj hm
    exact stat mj (Or.inr hm) h
  · rename_i w0 hm
    split at h
    · rename_i d' n dp g q sp f p0 r
      cases hq : Nat.ble (stw r) 8 && (Nat.beq (fkd f).1 (fkd g).1 && (Nat.blt 19 (fkd f).1 && Nat.blt (fkd f).1 23)) with
      | false => rw [hq] at h; exact False.elim h
      | true =>
        rw [hq, cond_true] at h
        simp only [Bool.and_eq_true] at hq
        have hw8 : stw r ≤ 8 := Nat.le_of_ble_eq_true hq.1
        have hfg := beq_n hq.2.1
        have hb1 : 19 < (fkd f).1 := by simpa using hq.2.2.1
        have hb2 : (fkd f).1 < 23 := by simpa using hq.2.2.2
        obtain ⟨p', hp', ep, hl, hl1, hfa⟩ := acc_ok (by omega) hH.2.2.2.2.2.2.2 h
        obtain ⟨q', hq', eq2, hm2, hm1, hma⟩ := acc_ok (by omega) hH.2.2.2.2.2.2.2 hp'
        obtain ⟨g1, g2, g3, g4, g5, g6⟩ := hq'
        have hf1 := fk_ne0 (f := f) rfl (by omega)
        have hg1 := fk_ne0 (f := g) rfl (by omega)
        have he := wsl_get md dT z b σ hl hl1 hfa
        have hev := wsl_get md dT z b σ hm2 hm1 hma
        have hlk : Cond.methodLink (ownN me.2.2.2.2.1) i arraycopyName ∈ wT := mlk_j hm (by omega)
        refine W.eq (g2 := F0 m pc arr (.int n :: .int dp :: .ref (z + cidx g q') :: .int sp :: .ref (z + cidx f p') :: r.map (cvv z b))) (by rw [List.map_cons, List.map_cons, List.map_cons, List.map_cons, List.map_cons, ref_eq hf1 ep, ref_eq hg1 eq2]; rfl) ?_
        have hlo2 : (((r.map (cvv z b)).map fun v => v.category).sum) + 18 ≤ R.locals := by rw [stw_cvv]; omega
        by_cases h22 : (fkd f).1 = 22
        · rw [show Nat.beq (fkd f).1 22 = true by rw [h22]; rfl, cond_true] at g6
          rw [cell_l h22] at he
          rw [cell_l (by omega)] at hev
          refine copy_at (fun y => .long y) (ty := .long) rfl hx hb (by rw [hml, hLs.1]) hown hts hlk (hH.2.1 _ _ he) (hH.2.1 _ _ hev) ((hH.1.2 2 _ rfl).1) ((hH.1.2 2 _ rfl).1) g1 g2 g3 g4 g5 (fun _ => rfl) (fun _ _ _ => trivial) (by omega) hlo2 hd fun H1 locs1 z1 oq e1 hlo1 => ?_
          refine hK _ _ _ _ g6 H1 locs1 arr kc ks (HI_write hH hm2 hm1 hma rfl (fun a ha => cellE_congr rfl (cpL_ne ha) rfl) hH.2.2.2.1 rfl z1 oq ?_) (S_more hS z1 oq (by show z < z + cidx g q'; omega) hlo1) hLs hc hs
          rw [cell_l (by omega), cpL_at]
          exact e1
        · have hbf : Nat.beq (fkd f).1 22 = false := by
            cases hq2 : Nat.beq (fkd f).1 22 with
            | false => rfl
            | true => exact absurd (beq_n hq2) h22
          rw [hbf, cond_false] at g6
          have hchs : ∀ f1 p1 k1, (fkd f1).1 = 21 → fits .char (.int (hI (cpI σ f p' sp.toNatClampNeg g q' dp.toNatClampNeg n.toNatClampNeg) f1 p1 k1)) = true := by
            intro f1 p1 k1 h21
            by_cases ha : (f1, p1) = (g, q')
            · cases ha
              rw [cpI_at]
              unfold va_cpy
              split
              · exact hH.2.2.2.1 f p' _ (by omega)
              · exact hH.2.2.2.1 _ _ _ h21
            · rw [show hI (cpI σ f p' sp.toNatClampNeg g q' dp.toNatClampNeg n.toNatClampNeg) f1 p1 = hI σ f1 p1 from cpI_ne (a := (f1, p1)) ha]
              exact hH.2.2.2.1 _ _ _ h21
          have h00 : hI (cpI σ f p' sp.toNatClampNeg g q' dp.toNatClampNeg n.toNatClampNeg) 0 0 = hI σ 0 0 := cpI_ne (a := (0, 0)) fun w => by
            have : 0 = g := congrArg Prod.fst w
            omega
          have hx2 : (fkd f).1 = 20 ∨ (fkd f).1 = 21 := by omega
          rcases hx2 with hk | hk
          · rw [cell_i hk (Or.inl rfl)] at he
            rw [cell_i (hfg.symm.trans hk) (Or.inl rfl)] at hev
            refine copy_at (fun y => .int y) (ty := .int) rfl hx hb (by rw [hml, hLs.1]) hown hts hlk (hH.2.1 _ _ he) (hH.2.1 _ _ hev) ((hH.1.2 0 _ rfl).1) ((hH.1.2 0 _ rfl).1) g1 g2 g3 g4 g5 (fun _ => rfl) (fun _ _ _ => trivial) (by omega) hlo2 hd fun H1 locs1 z1 oq e1 hlo1 => ?_
            refine hK _ _ _ _ g6 H1 locs1 arr kc ks (HI_write hH hm2 hm1 hma rfl (fun a ha => cellE_congr (cpI_ne ha) rfl rfl) hchs h00 z1 oq ?_) (S_more hS z1 oq (by show z < z + cidx g q'; omega) hlo1) hLs hc hs
            rw [cell_i (hfg.symm.trans hk) (Or.inl rfl), cpI_at]
            exact e1
          · rw [cell_i hk (Or.inr rfl)] at he
            rw [cell_i (hfg.symm.trans hk) (Or.inr rfl)] at hev
            refine copy_at (fun y => .int y) (ty := .char) rfl hx hb (by rw [hml, hLs.1]) hown hts hlk (hH.2.1 _ _ he) (hH.2.1 _ _ hev) ((hH.1.2 1 _ rfl).1) ((hH.1.2 1 _ rfl).1) g1 g2 g3 g4 g5 (fun j => hH.2.2.2.1 f p' j hk) (fun _ _ _ => trivial) (by omega) hlo2 hd fun H1 locs1 z1 oq e1 hlo1 => ?_
            refine hK _ _ _ _ g6 H1 locs1 arr kc ks (HI_write hH hm2 hm1 hma rfl (fun a ha => cellE_congr (cpI_ne ha) rfl rfl) hchs h00 z1 oq ?_) (S_more hS z1 oq (by show z < z + cidx g q'; omega) hlo1) hLs hc hs
            rw [cell_i (hfg.symm.trans hk) (Or.inr rfl), cpI_at]
            exact e1
    · exact h.elim
  · rename_i w0 hm
    split at h
    · rename_i d' y x r
      cases hw8 : Nat.ble (stw r) 8 with
      | false => rw [hw8] at h; exact h.elim
      | true =>
        rw [hw8, cond_true] at h
        have hw8 : stw r ≤ 8 := Nat.le_of_ble_eq_true hw8
        exact va_mmin (x := x) (y := y) hx hb (by rw [hml, hLs.1]) hown (hts _ (mlk_j hm (by omega))) (hts _ (w_static (List.elem_iff.mp jdkS.2.1))) (hts _ (w_ini inN2.2)) (hts _ (w_code (jdkC1))) (by omega) (by rw [stw_cvv]; omega) (by omega) (by omega) hd (hK _ _ _ _ h.2.2 H locs arr kc ks hH hS hLs hc hs)
    · exact h.elim
  · rename_i w0 hm
    split at h
    · rename_i d' x r
      cases hw8 : Nat.ble (stw r) 8 with
      | false => rw [hw8] at h; exact h.elim
      | true =>
        rw [hw8, cond_true] at h
        have hw8 : stw r ≤ 8 := Nat.le_of_ble_eq_true hw8
        exact va_mabs (x := x) hx hb (by rw [hml, hLs.1]) hown (hts _ (mlk_j hm (by omega))) (hts _ (w_static (List.elem_iff.mp jdkS.2.2))) (hts _ (w_ini inN2.2)) (hts _ (w_code (jdkC2))) (by omega) (by rw [stw_cvv]; omega) (by omega) (by omega) hd (hK _ _ _ _ h.2.2 H locs arr kc ks hH hS hLs hc hs)
    · exact h.elim
  · exact h.elim
end IV
