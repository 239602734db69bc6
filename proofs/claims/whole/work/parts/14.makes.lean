section MK
variable {me : MEnt} {ini : Bool} {d : Nat} {p : Program} {l : Launch} {e : Env} {R : Room} {s : State} {m : MethodId} {args : Array Value} {below : List Frame} {meth : Method} {c : Code} {Qm : State → Prop} {D : va_G} {dT : Nat → ClassId} {z b n0 t0 : Nat} {md : Bool} {B : Nat × Nat × Nat} {Qa : Option AV → Hp → Prop} {pc len : Nat} {ls : Ls} {st : List AV} {σ : Hp} {K : Nat → Ls → List AV → Hp → Prop}
theorem fa_pos {i : Nat} (h : 1 ≤ i) : 1 ≤ (fa i).1 := by
  unfold fa
  split
  · exact h
  · split
    · show 1 ≤ 21 + (i - 21) % 17; omega
    · split
      · exact h
      · show 1 ≤ 8 + (i - 266) % 10; omega
theorem zap_ne {σ : Hp} {f p n : Nat} {a : Nat × Nat} (h : a ≠ (f, p)) : hI (zap σ f p n) a.1 a.2 = hI σ a.1 a.2 ∧ hL (zap σ f p n) a.1 a.2 = hL σ a.1 a.2 ∧ hR (zap σ f p n) a.1 a.2 = hR σ a.1 a.2 := by
  have hn : ¬ (a.1 = f ∧ a.2 = p) := fun q => h (Prod.ext q.1 q.2)
  refine ⟨?_, ?_, ?_⟩
  · funext j
    show (if a.1 = f ∧ a.2 = p then (0 : Int32) else σ.2.1 a.1 a.2 j) = _
    rw [if_neg hn]; rfl
  · funext j
    show (if a.1 = f ∧ a.2 = p then (0 : Int64) else σ.2.2.1 a.1 a.2 j) = _
    rw [if_neg hn]; rfl
  · funext j
    show (if a.1 = f ∧ a.2 = p then none else σ.2.2.2 a.1 a.2 j) = _
    rw [if_neg hn]; rfl
theorem zap_at (σ : Hp) (f p n : Nat) : hI (zap σ f p n) f p = (fun _ => 0) ∧ hL (zap σ f p n) f p = (fun _ => 0) ∧ hR (zap σ f p n) f p = (fun _ => none) := by
  refine ⟨?_, ?_, ?_⟩
  · funext j
    show (if f = f ∧ p = p then (0 : Int32) else σ.2.1 f p j) = _
    rw [if_pos ⟨rfl, rfl⟩]
  · funext j
    show (if f = f ∧ p = p then (0 : Int64) else σ.2.2.1 f p j) = _
    rw [if_pos ⟨rfl, rfl⟩]
  · funext j
    show (if f = f ∧ p = p then none else σ.2.2.2 f p j) = _
    rw [if_pos ⟨rfl, rfl⟩]
theorem HI_make {D : va_G} {dT : Nat → ClassId} {z b n : Nat} {σ : Hp} {s : State} {H H1 : Heap} (h : HI false D dT z b σ s H) (z1 : H1.size = H.size + 1) (oq : ∀ q : Nat, q < H.size → H1[q]? = H[q]?)
    (he : va_at D clsW (z + σ.1.1, cellE false dT z b (zap σ (fa σ.1.1).1 (fa σ.1.1).2 n) (fa σ.1.1)) H1) : HI false D dT z b (zap σ (fa σ.1.1).1 (fa σ.1.1).2 n) s H1 := by
  obtain ⟨g1, g2, g3, g4, g5, g6, g7, g8⟩ := h
  have hpos := fa_pos g7
  refine ⟨g1, fun i q hq => ?_, ?_, ?_, ?_, g6, ?_, fun hm => by cases hm⟩
  · obtain ⟨hi, rfl⟩ := wsl_in hq
    have hi : i + 1 < σ.1.1 + 1 := hi
    by_cases ha : i + 1 = σ.1.1
    · rw [ha]; exact he
    · have hn : fa (i + 1) ≠ ((fa σ.1.1).1, (fa σ.1.1).2) := by
        intro hh
        have e1 := cidx_fa (i + 1)
        have e2 := cidx_fa σ.1.1
        rw [hh] at e1
        exact ha (e1.symm.trans e2)
      obtain ⟨y1, y2, y3⟩ := zap_ne (σ := σ) (n := n) hn
      rw [cellE_congr y1 y2 y3]
      have hq0 := g2 i _ (wsl_at false dT z b σ (by omega))
      refine hq0.kept (oq _ ?_)
      show z + (i + 1) < H.size
      omega
  · show H1.size = z + (σ.1.1 + 1)
    omega
  · intro f' p' k' h21
    show fits .char (.int (if f' = (fa σ.1.1).1 ∧ p' = (fa σ.1.1).2 then 0 else σ.2.1 f' p' k')) = true
    split
    · rfl
    · exact g4 f' p' k' h21
  · have e0 : hI (zap σ (fa σ.1.1).1 (fa σ.1.1).2 n) 0 0 = hI σ 0 0 := (zap_ne (a := (0, 0)) (fun q => by
      have : 0 = (fa σ.1.1).1 := congrArg Prod.fst q
      omega)).1
    rw [e0]
    show va_X b σ.1.2.2 _ s H1
    exact g5.kept (oq b (by omega))
  · show 1 ≤ σ.1.1 + 1
    omega
theorem ref_fa {z b i : Nat} (h : 1 ≤ i) : cvv z b (.inr (.inr (some (fa i)))) = .ref (z + i) := by
  show Value.ref (adr z b ((fa i).1, (fa i).2)) = _
  rw [adr_eq (fa_pos h) rfl, cidx_fa]
theorem made_ok : ∀ ci, ci < 10 → 1 ≤ ci → ∀ cc : vw_C, clsW[ci]? = some cc → Cond.instantiable cc.1 cc.2.2 ∈ wT := by
  have h : ∀ ci, ci < 10 → (match clsW[ci]? with
    | some cc => Nat.beq ci 0 || slZ_l.elem (cc.1, cc.2.2)
    | none => true) = true := by decide +kernel
  intro ci hci h1 cc hc
  have h2 := h ci hci
  rw [hc] at h2
  have h0 : Nat.beq ci 0 = false := by cases ci with
    | zero => omega
    | succ n => rfl
  simp only [h0, Bool.false_or] at h2
  exact w_made (List.elem_iff.mp h2)
theorem ck10 : (ckT.all fun q => decide (1 ≤ q.2.2.1) && decide (q.2.2.1 < 10)) = true := by decide +kernel
theorem one_new (X : Cx me ini d p R s m args meth c) (hB1 : B.1 ≤ n0 + R.cells) (hB2 : B.2.1 ≤ t0 + R.slots) {i : Nat} (hd : decode me.2.1 pc = .ok (.new i, len)) (hln : lnOk pc (.new i) len = true)
    (h : one md ini d B me.2.2.2.1 Qa me.2.2.2.2.1 (.new i) pc ls st σ K) (hK : ∀ pc' ls' st' σ', K pc' ls' st' σ' → WA me p l e R s m args below meth c Qm D dT z b n0 t0 md pc' ls' st' σ') : WA me p l e R s m args below meth c Qm D dT z b n0 t0 md pc ls st σ := by
  obtain ⟨hx, hb, hml, hown, hts, hini, hfr, hlo, hdc⟩ := X
  intro H locs arr kc ks hH hS hLs hc hs
  obtain rfl : len = 3 := by simpa [lnOk] using hln
  simp only [one] at h
  split at h
  · rename_i ci hci
    obtain ⟨h1, h2, h3, h4⟩ := h
    obtain ⟨pl, hm⟩ := clk_mem hci
    have hcb : 1 ≤ ci ∧ ci < 10 := by simpa using List.all_eq_true.mp ck10 _ hm
    obtain ⟨cc, hcl⟩ : ∃ cc, clsW[ci]? = some cc := ⟨_, List.getElem?_eq_getElem (by exact hcb.2)⟩
    obtain ⟨C, T, N⟩ := cc
    obtain ⟨hin, hty, hnm⟩ := cls_k hcl hcb.1
    obtain ⟨hN, hCn⟩ := ftN ci hcb.2 hcb.1 _ hcl
    have hN : (ftT.getD ci []).length = N := hN
    have hCn : C = ownN ci := hCn
    rw [hN] at h1 h3 h4
    have hKn := hH.1.1 ci _ hcl
    have hlen := hH.2.2.2.2.2.2.1
    refine W.newcK (n := N) hx hb hown (by rw [hCn]; exact hts _ (clk_w hci)) (hts _ (made_ok ci hcb.2 hcb.1 _ hcl)) (hts _ (w_ini (by rw [hCn]; exact inN ci hcb.2))) rfl hd (by omega) (by omega) hKn.2.1 rfl fun H1 kC hkC e1 z1 o1 => ?_
    refine W.eq (g2 := F0 m (pc + 3) arr ((.inr (.inr (some (fa σ.1.1))) :: st).map (cvv z b))) (by rw [List.map_cons, ref_fa hlen, ← hH.2.2.1]) ?_
    refine hK _ _ _ _ h4 H1 locs arr (kc + 1) (ks + N) (HI_make hH z1 o1 ?_) ⟨Nat.le_trans hS.1 (by omega), fun q g1 g2 => (o1 q (Nat.lt_of_lt_of_le g1 hS.1)).trans (hS.2.1 q g1 g2), hS.2.2⟩ hLs (by show σ.1.1 + 1 = _; omega) (by show σ.1.2.1 + N = _; omega)
    have hk1 : (fkd (fa σ.1.1).1).1 = ci := by rw [h1]
    have hk2 : (fkd (fa σ.1.1).1).2 = N := by rw [h1]
    rw [cell_o (f := (fa σ.1.1).1) (p := (fa σ.1.1).2) (by omega), hk1, hk2]
    rw [hH.2.2.1] at e1
    refine ⟨_, hcl, (u_born (tyW ci) hts hin hKn hkC e1 hty).to fun k hk => ?_⟩
    have hft : ftyp ci k = tcode (tyW ci k) := (ftK ci hcb.2 _ hcl hcb.1 k hk).1
    obtain ⟨y1, y2, y3⟩ := zap_at σ (fa σ.1.1).1 (fa σ.1.1).2 N
    have e2 : vp_V ((List.range N).map fun j => cvv z b (rdf false (zap σ (fa σ.1.1).1 (fa σ.1.1).2 N) ci (fa σ.1.1).1 (fa σ.1.1).2 j)) k = cvv z b (rdf false (zap σ (fa σ.1.1).1 (fa σ.1.1).2 N) ci (fa σ.1.1).1 (fa σ.1.1).2 k) := by
      unfold vp_V
      rw [List.getD_eq_getElem?_getD, List.getElem?_map, List.getElem?_range hk]
      rfl
    rw [e2]
    unfold rdf rdr
    rw [hft, y1, y2, y3]
    have hN46 : N ≤ 46 ∧ ∀ k, k < N → tcode (tyW ci k) < 4 := by
      have hall : ∀ ci, ci < 10 → (match clsW[ci]? with
        | some cc => decide (cc.2.2 ≤ 46) && (List.range cc.2.2).all fun k => decide (tcode (tyW ci k) < 4)
        | none => true) = true := by decide +kernel
      have := hall ci hcb.2
      rw [hcl] at this
      simp only [Bool.and_eq_true, decide_eq_true_eq, List.all_eq_true, List.mem_range] at this
      exact this
    have hlt := hN46.2 k hk
    cases hq2 : tyW ci k <;> rw [hq2] at hlt <;> first | rfl | exact absurd hlt (by decide)
  · exact h.elim
theorem one_newa (X : Cx me ini d p R s m args meth c) (hB1 : B.1 ≤ n0 + R.cells) (hB2 : B.2.1 ≤ t0 + R.slots) {t : ArrayType} (hd : decode me.2.1 pc = .ok (.newarray t, len)) (hln : lnOk pc (.newarray t) len = true)
    (h : one md ini d B me.2.2.2.1 Qa me.2.2.2.2.1 (.newarray t) pc ls st σ K) (hK : ∀ pc' ls' st' σ', K pc' ls' st' σ' → WA me p l e R s m args below meth c Qm D dT z b n0 t0 md pc' ls' st' σ') : WA me p l e R s m args below meth c Qm D dT z b n0 t0 md pc ls st σ := by
  obtain ⟨hx, hb, hml, hown, hts, hini, hfr, hlo, hdc⟩ := X
  intro H locs arr kc ks hH hS hLs hc hs
  obtain rfl : len = 2 := by simpa [lnOk] using hln
  simp only [one] at h
  split at h
  · rename_i n r
    obtain ⟨hn, h1, h2, h3, h4⟩ := h
    have hlen := hH.2.2.2.2.2.2.1
    have hk1 : (fkd (fa σ.1.1).1).1 = akind t := by rw [h1]
    have hk2 : (fkd (fa σ.1.1).1).2 = n.toNatClampNeg := by rw [h1]
    have hbig : n.toNatClampNeg < 100000 ∧ (t = .int ∨ t = .char ∨ t = .long) := by
      rcases Nat.lt_or_ge (fa σ.1.1).1 266 with q | q
      · refine ⟨by rw [← hk2]; exact (fkB _ q).2.2, ?_⟩
        have hne : ∀ f, f < 266 → (fkd f).1 ≠ 97 := by decide +kernel
        cases t <;> first | exact Or.inl rfl | exact Or.inr (Or.inl rfl) | exact Or.inr (Or.inr rfl) | exact absurd hk1 (hne _ q)
      · have := fkd_out q
        rw [hk1] at this
        cases t <;> cases this
    obtain ⟨hn5, ht3⟩ := hbig
    have go : ∀ (H1 : Heap) (cA : ClassId) (dv : Value) (k0 : Nat), akind t = k0 → cA = dT k0 → H1[z + σ.1.1]? = some (arrV cA n.toNatClampNeg (fun _ => dv)) → H1.size = H.size + 1 → (∀ q, q < H.size → H1[q]? = H[q]?) → ((k0 = 20 ∨ k0 = 21) ∧ dv = .int 0 ∨ k0 = 22 ∧ dv = .long 0) → W p l e R s m args below meth c H1 locs (kc + 1) (ks + n.toNatClampNeg) Qm (F0 m (pc + 2) arr (.ref (z + σ.1.1) :: r.map (cvv z b))) := by
      intro H1 cA dv k0 hk0 hcA e1 z1 o1 hdv
      refine W.eq (g2 := F0 m (pc + 2) arr ((.inr (.inr (some (fa σ.1.1))) :: r).map (cvv z b))) (by rw [List.map_cons, ref_fa hlen]) ?_
      refine hK _ _ _ _ h4 H1 locs arr (kc + 1) (ks + n.toNatClampNeg) (HI_make hH z1 o1 ?_) ⟨Nat.le_trans hS.1 (by omega), fun q g1 g2 => (o1 q (Nat.lt_of_lt_of_le g1 hS.1)).trans (hS.2.1 q g1 g2), hS.2.2⟩ hLs (by show σ.1.1 + 1 = _; omega) (by show σ.1.2.1 + _ = _; omega)
      obtain ⟨y1, y2, y3⟩ := zap_at σ (fa σ.1.1).1 (fa σ.1.1).2 n.toNatClampNeg
      rcases hdv with ⟨hk, rfl⟩ | ⟨rfl, rfl⟩
      · rw [cell_i (f := (fa σ.1.1).1) (p := (fa σ.1.1).2) (hk1.trans hk0) hk, y1, hk2]
        show H1[z + σ.1.1]? = some (vp_cell _ _)
        rw [vp_cell_i, e1, hcA]
      · rw [cell_l (f := (fa σ.1.1).1) (p := (fa σ.1.1).2) (hk1.trans hk0), y2, hk2]
        show H1[z + σ.1.1]? = some (vp_cell _ _)
        rw [vp_cell_l, e1, hcA]
    rcases ht3 with rfl | rfl | rfl
    · refine va_newaK (atype := .int) hx hb (hts _ (w_arr (by decide))) rfl hd rfl hn rfl (by show _ * 4 ≤ _; omega) (by omega) (by omega) hH.2.2.1 fun H1 cA e1 z1 o1 hAr hNm => ?_
      have hRA : s.vm.findClass ("[" ++ FieldType.toString .int) = some (dT 20) := (hH.1.2 0 _ rfl).2
      exact go H1 cA (.int 0) 20 rfl (Option.some.inj (hNm.symm.trans hRA)) e1 (by rw [z1, hH.2.2.1]) (fun q hq => o1 q (by rw [← hH.2.2.1]; exact hq)) (Or.inl ⟨Or.inl rfl, rfl⟩)
    · refine va_newaK (atype := .char) hx hb (hts _ (w_arr (by decide))) rfl hd rfl hn rfl (by show _ * 2 ≤ _; omega) (by omega) (by omega) hH.2.2.1 fun H1 cA e1 z1 o1 hAr hNm => ?_
      have hRA : s.vm.findClass ("[" ++ FieldType.toString .char) = some (dT 21) := (hH.1.2 1 _ rfl).2
      exact go H1 cA (.int 0) 21 rfl (Option.some.inj (hNm.symm.trans hRA)) e1 (by rw [z1, hH.2.2.1]) (fun q hq => o1 q (by rw [← hH.2.2.1]; exact hq)) (Or.inl ⟨Or.inr rfl, rfl⟩)
    · refine va_newaK (atype := .long) hx hb (hts _ (w_arr (by decide))) rfl hd rfl hn rfl (by show _ * 8 ≤ _; omega) (by omega) (by omega) hH.2.2.1 fun H1 cA e1 z1 o1 hAr hNm => ?_
      have hRA : s.vm.findClass ("[" ++ FieldType.toString .long) = some (dT 22) := (hH.1.2 2 _ rfl).2
      exact go H1 cA (.long 0) 22 rfl (Option.some.inj (hNm.symm.trans hRA)) e1 (by rw [z1, hH.2.2.1]) (fun q hq => o1 q (by rw [← hH.2.2.1]; exact hq)) (Or.inr ⟨rfl, rfl⟩)
  · exact h.elim
theorem one_anew (X : Cx me ini d p R s m args meth c) (hB1 : B.1 ≤ n0 + R.cells) (hB2 : B.2.1 ≤ t0 + R.slots) {i : Nat} (hd : decode me.2.1 pc = .ok (.anewarray i, len)) (hln : lnOk pc (.anewarray i) len = true)
    (h : one md ini d B me.2.2.2.1 Qa me.2.2.2.2.1 (.anewarray i) pc ls st σ K) (hK : ∀ pc' ls' st' σ', K pc' ls' st' σ' → WA me p l e R s m args below meth c Qm D dT z b n0 t0 md pc' ls' st' σ') : WA me p l e R s m args below meth c Qm D dT z b n0 t0 md pc ls st σ := by
  obtain ⟨hx, hb, hml, hown, hts, hini, hfr, hlo, hdc⟩ := X
  intro H locs arr kc ks hH hS hLs hc hs
  obtain rfl : len = 3 := by simpa [lnOk] using hln
  simp only [one] at h
  split at h
  · rename_i ci n r hci
    obtain ⟨hn, h1, h2, h3, h4⟩ := h
    have hlen := hH.2.2.2.2.2.2.1
    have hk1 : (fkd (fa σ.1.1).1).1 = okind ci := by rw [h1]
    have hk2 : (fkd (fa σ.1.1).1).2 = n.toNatClampNeg := by rw [h1]
    have hbig : n.toNatClampNeg < 100000 ∧ okind ci < 26 := by
      rcases Nat.lt_or_ge (fa σ.1.1).1 266 with q | q
      · refine ⟨by rw [← hk2]; exact (fkB _ q).2.2, ?_⟩
        have hne : ∀ f, f < 266 → (fkd f).1 ≠ 97 := by decide +kernel
        have h97 := hne _ q
        rw [hk1] at h97
        unfold okind at h97 ⊢
        split at h97 <;> first | omega | exact absurd rfl h97
      · have := fkd_out q
        rw [hk1] at this
        unfold okind at this
        split at this <;> cases this
    obtain ⟨hn5, hok⟩ := hbig
    have hoks := okind_in (ci := ci) rfl hok
    obtain ⟨t1, cc, ht, hcl, hov⟩ : ∃ (t1 : Nat) (cc : vw_C), (tysL dT)[t1]? = some (dT (okind ci), .object cc.1) ∧ cc.1 = ownN ci ∧ Cond.arrayOver (.object cc.1) ∈ wT := by
      rcases hoks with ⟨rfl, e2⟩ | ⟨rfl, e2⟩ | ⟨rfl, e2⟩
      · exact ⟨3, (RX7, TX7, 11), rfl, rfl, w_over (by decide)⟩
      · exact ⟨4, (RX3, TX3, 16), rfl, rfl, w_over (by decide)⟩
      · exact ⟨5, (RX1, TX1, 10), rfl, rfl, w_over (by decide)⟩
    refine W.anew hx hb hown (by rw [hcl]; exact hts _ (clk_w hci)) (hts _ hov) rfl hd rfl hn (by omega) (by omega) (by omega) fun cA kA comp f1 f2 f3 f4 => ?_
    obtain ⟨kA2, comp2, k1, k2, k3, k4⟩ := (hH.1.2 t1 _ ht).2
    have hcA : cA = dT (okind ci) := Option.some.inj (f1.symm.trans k4)
    refine W.eq (g2 := F0 m (pc + 3) arr ((.inr (.inr (some (fa σ.1.1))) :: r).map (cvv z b))) (by show F0 m (pc + 3) arr (.ref H.size :: r.map (cvv z b)) = F0 m (pc + 3) arr (cvv z b (.inr (.inr (some (fa σ.1.1)))) :: r.map (cvv z b)); rw [ref_fa hlen, hH.2.2.1]) ?_
    have z1 : (H.push ({ cls := cA, slots := Array.replicate n.toNatClampNeg .null, vm := .none } : Cell)).size = H.size + 1 := by rw [Array.size_push]
    have o1 : ∀ q : Nat, q < H.size → (H.push ({ cls := cA, slots := Array.replicate n.toNatClampNeg .null, vm := .none } : Cell))[q]? = H[q]? := fun q hq => by rw [Array.getElem?_push, if_neg (Nat.ne_of_lt hq)]
    refine hK _ _ _ _ h4 _ locs arr (kc + 1) (ks + n.toNatClampNeg) (HI_make hH z1 o1 ?_) ⟨Nat.le_trans hS.1 (by omega), fun q g1 g2 => (o1 q (Nat.lt_of_lt_of_le g1 hS.1)).trans (hS.2.1 q g1 g2), hS.2.2⟩ hLs (by show σ.1.1 + 1 = _; omega) (by show σ.1.2.1 + _ = _; omega)
    obtain ⟨y1, y2, y3⟩ := zap_at σ (fa σ.1.1).1 (fa σ.1.1).2 n.toNatClampNeg
    rw [cell_r (f := (fa σ.1.1).1) (p := (fa σ.1.1).2) (by omega), hk1, hk2]
    show (H.push _)[z + σ.1.1]? = some (vp_cell _ _)
    rw [← hH.2.2.1, Array.getElem?_push_size, arrV_new, vp_cell_q, hcA]
    congr 2
    funext j
    show Value.null = va_rf (Option.map _ (rdr false _ _ _ j))
    unfold rdr
    rw [y3]
    rfl
  · exact h.elim
end MK
