/-! the law: its cases (written by a program) -/
def LwI (L : Nat) (xs : Nat → Int32) (m n : Nat) (t : Nat → Nat) (D : List DB) (x : DB) (h : Hp) : Prop := fill h = h ∧ h.1 = Bm m L ∧ InC h m n t D x ∧ InM h n t D x ∧ ∀ k, hI h 0 0 k = xs k
def LwH (L : Nat) (xs : Nat → Int32) (n : Nat) (t : Nat → Nat) (D : List DB) (x : DB) (m' n' : Nat) (t' : Nat → Nat) (D' : List DB) (x' : DB) (h : Hp) : Prop := fill h = h ∧ h.1 = Bm m' L ∧ InC h m' n' t' D' x' ∧ InP D' x' ∧ InM h n t D x ∧ ∀ k, hI h 0 0 k = xs k
def OpAt (L mc mm : Nat) (as : List AV) (m n : Nat) (t : Nat → Nat) (D : List DB) (x : DB) (v : Int32) (m' n' : Nat) (t' : Nat → Nat) (D' : List DB) (x' : DB) : Prop := (∀ σ, σ.1 = Bm m L → InC σ m n t D x → RI 35 mc (vr 1 0 :: as) σ (Bm m' L) v (fun h => InC h m' n' t' D' x' ∧ InP D' x' ∧ Fi CF σ h)) ∧ ∀ σ, InM σ n t D x → InP D' x' → PI 35 mm (vr 233 0 :: as) σ v (fun h => InM h n' t' D' x' ∧ Fr MF σ h)
theorem InC_fill {h : Hp} {m n : Nat} {t : Nat → Nat} {D : List DB} {x : DB} (k : InC h m n t D x) : InC (fill h) m n t D x := ⟨k.1, k.2.1, HiC_eq (σ := h) rfl rfl (fun j y _ w => w) k.2.2⟩
section
variable {L m n m' n' mf mc mm i : Nat} {xs : Nat → Int32} {t t' : Nat → Nat} {D D' : List DB} {x x' : DB} {v : Int32} {as : List AV} {h : Hp} {Q : Option AV → Hp → Prop}
theorem law_call (oa : OpAt L mc mm as m n t D x v m' n' t' D' x') (le : m' ≤ mf) (lw : LwI L xs m n t D x h) {K : Int32 → Hp → Prop} (k : ∀ h1, LwH L xs n t D x m' n' t' D' x' h1 → K v h1) : CalI false 35 mc (vr 1 0 :: as) h (Bm mf L) K := by
  obtain ⟨l1, l2, l3, l4, l5⟩ := lw
  refine ⟨Bm m' L, _, Ev_f l1 ⟨m, by rw [l2]; rfl⟩ (oa.1 h l2 l3), (Bm_le L le).1, (Bm_le L le).2, fun y s q e => ?_⟩
  obtain ⟨s0, ⟨q1, q2, q3, q4⟩, q5, q6⟩ := q
  cases q1
  subst q5
  refine k _ ⟨fill_fill s0, e, InC_fill q2, q3, InM_c (h := s0) q4 l4, fun j => ?_⟩
  show hI s0 0 0 j = xs j
  rw [(q4 0 0 (fun w => by unfold CF at w; omega)).1]
  exact l5 j
theorem law_call2 (oa : OpAt L mc mm as m n t D x v m' n' t' D' x') (le : m' ≤ mf) (lw : LwH L xs n t D x m' n' t' D' x' h) {K : Int32 → Hp → Prop} (k : ∀ h2, InP D' x' → LwI L xs m' n' t' D' x' h2 → K v h2) : CalI false 35 mm (vr 233 0 :: as) h (Bm mf L) K := by
  obtain ⟨l1, l2, l3, l4, l5, l6⟩ := lw
  have c : Ev true 35 mm (vr 233 0 :: as) h (Bm m' L) _ := RI_PI l2 (oa.2 h l5 l4)
  refine ⟨Bm m' L, _, Ev_f l1 ⟨m', by rw [l2]; rfl⟩ c, (Bm_le L le).1, (Bm_le L le).2, fun y s q e => ?_⟩
  obtain ⟨s0, ⟨q1, q2, q3⟩, q5, q6⟩ := q
  cases q1
  subst q5
  refine k _ l4 ⟨fill_fill s0, e, InC_fill (InC_m q3 l3), q2, fun j => ?_⟩
  show hI s0 0 0 j = xs j
  rw [(q3.2 0 0 (fun w => by unfold MF at w; omega)).1]
  exact l6 j
theorem op_putL (y : Int64) : OpOK 69 113 [vl y] := by
  obtain ⟨N, hN, e⟩ := wb_of y
  subst e
  exact op_put hN
set_option maxRecDepth 6000 in
theorem lc_0 (hL : L ≤ 2048) (hi : i + 4 ≤ L) (oa : OpAt L 69 113 [vl ((xs (i + 1)).toInt64 <<< ((nI 32).toInt64 &&& 63) ||| (xs (i + 2)).toInt64 &&& lN 4294967295)] m n t D x v m' n' t' D' x') (le : m' ≤ mf) (lw : LwI L xs m n t D x h) (K : ∀ h2, InP D' x' → LwI L xs m' n' t' D' x' h2 → Sat false 36 204 (Bm mf L) Q 846 [some (vr 0 0), some (vr 1 0), some (vr 233 0), some (vi (nI i))] [] h2) : Sat false 36 204 (Bm mf L) Q 144 [some (vr 0 0), some (vr 1 0), some (vr 233 0), some (vi (nI i))] [] h := by
  have c11 : h.1.1 = 266 + 10 * m := congrArg Prod.fst lw.2.1
  have c12 : h.1.2.2 = L := congrArg (fun q => q.2.2) lw.2.1
  refine wp_ok (cut := [846]) ma_204 rfl 41 _ _ _ _ ?_
  show (vp_in ((nI i) + (nI 1)) h.1.2.2 ∧ (vp_in ((nI i) + (nI 2)) h.1.2.2 ∧ (1 < h.1.1 ∧ CalI false 35 69 [vr 1 0, vl ((((hI h 0 0 (((nI i) + (nI 1)).toNatClampNeg)).toInt64) <<< ((nI 32).toInt64 &&& 63)) ||| (((hI h 0 0 (((nI i) + (nI 2)).toNatClampNeg)).toInt64) &&& (lN 4294967295)))] h (Bm mf L) (fun x2 s1 => (vp_in ((nI i) + (nI 1)) s1.1.2.2 ∧ (vp_in ((nI i) + (nI 2)) s1.1.2.2 ∧ (233 < s1.1.1 ∧ CalI false 35 113 [vr 233 0, vl ((((hI s1 0 0 (((nI i) + (nI 1)).toNatClampNeg)).toInt64) <<< ((nI 32).toInt64 &&& 63)) ||| (((hI s1 0 0 (((nI i) + (nI 2)).toNatClampNeg)).toInt64) &&& (lN 4294967295)))] s1 (Bm mf L) (fun x4 s3 => ((x2 = x4 → Sat false 36 204 (Bm mf L) Q 846 [some (vr 0 0), some (vr 1 0), some (vr 233 0), some (vi (nI i))] [] s3) ∧ (¬ x2 = x4 → (((nI 0) = 0 ∨ (nI 0) = 1) ∧ (Q (some (vi (nI 0))) s3 ∧ s3.1 = Bm mf L))))))))))))
  rw [addN i 1, addN i 2, ix (n := i + 1) (by omega), ix (n := i + 2) (by omega), c12, lw.2.2.2.2 (i + 1), lw.2.2.2.2 (i + 2)]
  refine ⟨inb (by omega) (by omega), inb (by omega) (by omega), by omega, law_call oa le lw (fun h1 l1 => ?_)⟩
  have d11 : h1.1.1 = 266 + 10 * m' := congrArg Prod.fst l1.2.1
  have d12 : h1.1.2.2 = L := congrArg (fun q => q.2.2) l1.2.1
  rw [d12, l1.2.2.2.2.2 (i + 1), l1.2.2.2.2.2 (i + 2)]
  exact ⟨inb (by omega) (by omega), inb (by omega) (by omega), by omega, law_call2 oa le l1 (fun h2 i2 l2 => ⟨fun _ => K h2 i2 l2, fun w => absurd rfl w⟩)⟩
set_option maxRecDepth 6000 in
theorem lc_1 (hL : L ≤ 2048) (hi : i + 4 ≤ L) (oa : OpAt L 70 114 [] m n t D x v m' n' t' D' x') (le : m' ≤ mf) (lw : LwI L xs m n t D x h) (K : ∀ h2, InP D' x' → LwI L xs m' n' t' D' x' h2 → Sat false 36 204 (Bm mf L) Q 846 [some (vr 0 0), some (vr 1 0), some (vr 233 0), some (vi (nI i))] [] h2) : Sat false 36 204 (Bm mf L) Q 197 [some (vr 0 0), some (vr 1 0), some (vr 233 0), some (vi (nI i))] [] h := by
  have c11 : h.1.1 = 266 + 10 * m := congrArg Prod.fst lw.2.1
  refine wp_ok (cut := [846]) ma_204 rfl 7 _ _ _ _ ?_
  show (1 < h.1.1 ∧ CalI false 35 70 [vr 1 0] h (Bm mf L) (fun x2 s1 => (233 < s1.1.1 ∧ CalI false 35 114 [vr 233 0] s1 (Bm mf L) (fun x4 s3 => ((x2 = x4 → Sat false 36 204 (Bm mf L) Q 846 [some (vr 0 0), some (vr 1 0), some (vr 233 0), some (vi (nI i))] [] s3) ∧ (¬ x2 = x4 → (((nI 0) = 0 ∨ (nI 0) = 1) ∧ (Q (some (vi (nI 0))) s3 ∧ s3.1 = Bm mf L))))))))
  refine ⟨by omega, law_call oa le lw (fun h1 l1 => ?_)⟩
  have d11 : h1.1.1 = 266 + 10 * m' := congrArg Prod.fst l1.2.1
  exact ⟨by omega, law_call2 oa le l1 (fun h2 i2 l2 => ⟨fun _ => K h2 i2 l2, fun w => absurd rfl w⟩)⟩
set_option maxRecDepth 6000 in
theorem lc_2 (hL : L ≤ 2048) (hi : i + 4 ≤ L) (oa : OpAt L 71 132 [vi (xs (i + 1))] m n t D x v m' n' t' D' x') (le : m' ≤ mf) (lw : LwI L xs m n t D x h) (K : ∀ h2, InP D' x' → LwI L xs m' n' t' D' x' h2 → Sat false 36 204 (Bm mf L) Q 846 [some (vr 0 0), some (vr 1 0), some (vr 233 0), some (vi (nI i))] [] h2) : Sat false 36 204 (Bm mf L) Q 210 [some (vr 0 0), some (vr 1 0), some (vr 233 0), some (vi (nI i))] [] h := by
  have c11 : h.1.1 = 266 + 10 * m := congrArg Prod.fst lw.2.1
  have c12 : h.1.2.2 = L := congrArg (fun q => q.2.2) lw.2.1
  refine wp_ok (cut := [846]) ma_204 rfl 17 _ _ _ _ ?_
  show (vp_in ((nI i) + (nI 1)) h.1.2.2 ∧ (1 < h.1.1 ∧ CalI false 35 71 [vr 1 0, vi (hI h 0 0 (((nI i) + (nI 1)).toNatClampNeg))] h (Bm mf L) (fun x2 s1 => (vp_in ((nI i) + (nI 1)) s1.1.2.2 ∧ (233 < s1.1.1 ∧ CalI false 35 132 [vr 233 0, vi (hI s1 0 0 (((nI i) + (nI 1)).toNatClampNeg))] s1 (Bm mf L) (fun x4 s3 => ((x2 = x4 → Sat false 36 204 (Bm mf L) Q 846 [some (vr 0 0), some (vr 1 0), some (vr 233 0), some (vi (nI i))] [] s3) ∧ (¬ x2 = x4 → (((nI 0) = 0 ∨ (nI 0) = 1) ∧ (Q (some (vi (nI 0))) s3 ∧ s3.1 = Bm mf L))))))))))
  rw [addN i 1, ix (n := i + 1) (by omega), c12, lw.2.2.2.2 (i + 1)]
  refine ⟨inb (by omega) (by omega), by omega, law_call oa le lw (fun h1 l1 => ?_)⟩
  have d11 : h1.1.1 = 266 + 10 * m' := congrArg Prod.fst l1.2.1
  have d12 : h1.1.2.2 = L := congrArg (fun q => q.2.2) l1.2.1
  rw [d12, l1.2.2.2.2.2 (i + 1)]
  exact ⟨inb (by omega) (by omega), by omega, law_call2 oa le l1 (fun h2 i2 l2 => ⟨fun _ => K h2 i2 l2, fun w => absurd rfl w⟩)⟩
set_option maxRecDepth 6000 in
theorem lc_3 (hL : L ≤ 2048) (hi : i + 4 ≤ L) (oa : OpAt L 72 140 [vi (xs (i + 1))] m n t D x v m' n' t' D' x') (le : m' ≤ mf) (lw : LwI L xs m n t D x h) (K : ∀ h2, InP D' x' → LwI L xs m' n' t' D' x' h2 → Sat false 36 204 (Bm mf L) Q 846 [some (vr 0 0), some (vr 1 0), some (vr 233 0), some (vi (nI i))] [] h2) : Sat false 36 204 (Bm mf L) Q 233 [some (vr 0 0), some (vr 1 0), some (vr 233 0), some (vi (nI i))] [] h := by
  have c11 : h.1.1 = 266 + 10 * m := congrArg Prod.fst lw.2.1
  have c12 : h.1.2.2 = L := congrArg (fun q => q.2.2) lw.2.1
  refine wp_ok (cut := [846]) ma_204 rfl 17 _ _ _ _ ?_
  show (vp_in ((nI i) + (nI 1)) h.1.2.2 ∧ (1 < h.1.1 ∧ CalI false 35 72 [vr 1 0, vi (hI h 0 0 (((nI i) + (nI 1)).toNatClampNeg))] h (Bm mf L) (fun x2 s1 => (vp_in ((nI i) + (nI 1)) s1.1.2.2 ∧ (233 < s1.1.1 ∧ CalI false 35 140 [vr 233 0, vi (hI s1 0 0 (((nI i) + (nI 1)).toNatClampNeg))] s1 (Bm mf L) (fun x4 s3 => ((x2 = x4 → Sat false 36 204 (Bm mf L) Q 846 [some (vr 0 0), some (vr 1 0), some (vr 233 0), some (vi (nI i))] [] s3) ∧ (¬ x2 = x4 → (((nI 0) = 0 ∨ (nI 0) = 1) ∧ (Q (some (vi (nI 0))) s3 ∧ s3.1 = Bm mf L))))))))))
  rw [addN i 1, ix (n := i + 1) (by omega), c12, lw.2.2.2.2 (i + 1)]
  refine ⟨inb (by omega) (by omega), by omega, law_call oa le lw (fun h1 l1 => ?_)⟩
  have d11 : h1.1.1 = 266 + 10 * m' := congrArg Prod.fst l1.2.1
  have d12 : h1.1.2.2 = L := congrArg (fun q => q.2.2) l1.2.1
  rw [d12, l1.2.2.2.2.2 (i + 1)]
  exact ⟨inb (by omega) (by omega), by omega, law_call2 oa le l1 (fun h2 i2 l2 => ⟨fun _ => K h2 i2 l2, fun w => absurd rfl w⟩)⟩
set_option maxRecDepth 6000 in
theorem lc_4 (hL : L ≤ 2048) (hi : i + 4 ≤ L) (oa : OpAt L 73 142 [vi (xs (i + 1))] m n t D x v m' n' t' D' x') (le : m' ≤ mf) (lw : LwI L xs m n t D x h) (K : ∀ h2, InP D' x' → LwI L xs m' n' t' D' x' h2 → Sat false 36 204 (Bm mf L) Q 846 [some (vr 0 0), some (vr 1 0), some (vr 233 0), some (vi (nI i))] [] h2) : Sat false 36 204 (Bm mf L) Q 256 [some (vr 0 0), some (vr 1 0), some (vr 233 0), some (vi (nI i))] [] h := by
  have c11 : h.1.1 = 266 + 10 * m := congrArg Prod.fst lw.2.1
  have c12 : h.1.2.2 = L := congrArg (fun q => q.2.2) lw.2.1
  refine wp_ok (cut := [846]) ma_204 rfl 17 _ _ _ _ ?_
  show (vp_in ((nI i) + (nI 1)) h.1.2.2 ∧ (1 < h.1.1 ∧ CalI false 35 73 [vr 1 0, vi (hI h 0 0 (((nI i) + (nI 1)).toNatClampNeg))] h (Bm mf L) (fun x2 s1 => (vp_in ((nI i) + (nI 1)) s1.1.2.2 ∧ (233 < s1.1.1 ∧ CalI false 35 142 [vr 233 0, vi (hI s1 0 0 (((nI i) + (nI 1)).toNatClampNeg))] s1 (Bm mf L) (fun x4 s3 => ((x2 = x4 → Sat false 36 204 (Bm mf L) Q 846 [some (vr 0 0), some (vr 1 0), some (vr 233 0), some (vi (nI i))] [] s3) ∧ (¬ x2 = x4 → (((nI 0) = 0 ∨ (nI 0) = 1) ∧ (Q (some (vi (nI 0))) s3 ∧ s3.1 = Bm mf L))))))))))
  rw [addN i 1, ix (n := i + 1) (by omega), c12, lw.2.2.2.2 (i + 1)]
  refine ⟨inb (by omega) (by omega), by omega, law_call oa le lw (fun h1 l1 => ?_)⟩
  have d11 : h1.1.1 = 266 + 10 * m' := congrArg Prod.fst l1.2.1
  have d12 : h1.1.2.2 = L := congrArg (fun q => q.2.2) l1.2.1
  rw [d12, l1.2.2.2.2.2 (i + 1)]
  exact ⟨inb (by omega) (by omega), by omega, law_call2 oa le l1 (fun h2 i2 l2 => ⟨fun _ => K h2 i2 l2, fun w => absurd rfl w⟩)⟩
set_option maxRecDepth 6000 in
theorem lc_5 (hL : L ≤ 2048) (hi : i + 4 ≤ L) (oa : OpAt L 74 143 [vi (xs (i + 1)), vi (xs (i + 2))] m n t D x v m' n' t' D' x') (le : m' ≤ mf) (lw : LwI L xs m n t D x h) (K : ∀ h2, InP D' x' → LwI L xs m' n' t' D' x' h2 → Sat false 36 204 (Bm mf L) Q 846 [some (vr 0 0), some (vr 1 0), some (vr 233 0), some (vi (nI i))] [] h2) : Sat false 36 204 (Bm mf L) Q 279 [some (vr 0 0), some (vr 1 0), some (vr 233 0), some (vi (nI i))] [] h := by
  have c11 : h.1.1 = 266 + 10 * m := congrArg Prod.fst lw.2.1
  have c12 : h.1.2.2 = L := congrArg (fun q => q.2.2) lw.2.1
  refine wp_ok (cut := [846]) ma_204 rfl 27 _ _ _ _ ?_
  show (vp_in ((nI i) + (nI 1)) h.1.2.2 ∧ (vp_in ((nI i) + (nI 2)) h.1.2.2 ∧ (1 < h.1.1 ∧ CalI false 35 74 [vr 1 0, vi (hI h 0 0 (((nI i) + (nI 1)).toNatClampNeg)), vi (hI h 0 0 (((nI i) + (nI 2)).toNatClampNeg))] h (Bm mf L) (fun x2 s1 => (vp_in ((nI i) + (nI 1)) s1.1.2.2 ∧ (vp_in ((nI i) + (nI 2)) s1.1.2.2 ∧ (233 < s1.1.1 ∧ CalI false 35 143 [vr 233 0, vi (hI s1 0 0 (((nI i) + (nI 1)).toNatClampNeg)), vi (hI s1 0 0 (((nI i) + (nI 2)).toNatClampNeg))] s1 (Bm mf L) (fun x4 s3 => ((x2 = x4 → Sat false 36 204 (Bm mf L) Q 846 [some (vr 0 0), some (vr 1 0), some (vr 233 0), some (vi (nI i))] [] s3) ∧ (¬ x2 = x4 → (((nI 0) = 0 ∨ (nI 0) = 1) ∧ (Q (some (vi (nI 0))) s3 ∧ s3.1 = Bm mf L))))))))))))
  rw [addN i 1, addN i 2, ix (n := i + 1) (by omega), ix (n := i + 2) (by omega), c12, lw.2.2.2.2 (i + 1), lw.2.2.2.2 (i + 2)]
  refine ⟨inb (by omega) (by omega), inb (by omega) (by omega), by omega, law_call oa le lw (fun h1 l1 => ?_)⟩
  have d11 : h1.1.1 = 266 + 10 * m' := congrArg Prod.fst l1.2.1
  have d12 : h1.1.2.2 = L := congrArg (fun q => q.2.2) l1.2.1
  rw [d12, l1.2.2.2.2.2 (i + 1), l1.2.2.2.2.2 (i + 2)]
  exact ⟨inb (by omega) (by omega), inb (by omega) (by omega), by omega, law_call2 oa le l1 (fun h2 i2 l2 => ⟨fun _ => K h2 i2 l2, fun w => absurd rfl w⟩)⟩
set_option maxRecDepth 6000 in
theorem lc_6 (hL : L ≤ 2048) (hi : i + 4 ≤ L) (oa : OpAt L 75 158 [vi (xs (i + 1)), vi (xs (i + 2))] m n t D x v m' n' t' D' x') (le : m' ≤ mf) (lw : LwI L xs m n t D x h) (K : ∀ h2, InP D' x' → LwI L xs m' n' t' D' x' h2 → Sat false 36 204 (Bm mf L) Q 846 [some (vr 0 0), some (vr 1 0), some (vr 233 0), some (vi (nI i))] [] h2) : Sat false 36 204 (Bm mf L) Q 312 [some (vr 0 0), some (vr 1 0), some (vr 233 0), some (vi (nI i))] [] h := by
  have c11 : h.1.1 = 266 + 10 * m := congrArg Prod.fst lw.2.1
  have c12 : h.1.2.2 = L := congrArg (fun q => q.2.2) lw.2.1
  refine wp_ok (cut := [846]) ma_204 rfl 27 _ _ _ _ ?_
  show (vp_in ((nI i) + (nI 1)) h.1.2.2 ∧ (vp_in ((nI i) + (nI 2)) h.1.2.2 ∧ (1 < h.1.1 ∧ CalI false 35 75 [vr 1 0, vi (hI h 0 0 (((nI i) + (nI 1)).toNatClampNeg)), vi (hI h 0 0 (((nI i) + (nI 2)).toNatClampNeg))] h (Bm mf L) (fun x2 s1 => (vp_in ((nI i) + (nI 1)) s1.1.2.2 ∧ (vp_in ((nI i) + (nI 2)) s1.1.2.2 ∧ (233 < s1.1.1 ∧ CalI false 35 158 [vr 233 0, vi (hI s1 0 0 (((nI i) + (nI 1)).toNatClampNeg)), vi (hI s1 0 0 (((nI i) + (nI 2)).toNatClampNeg))] s1 (Bm mf L) (fun x4 s3 => ((x2 = x4 → Sat false 36 204 (Bm mf L) Q 846 [some (vr 0 0), some (vr 1 0), some (vr 233 0), some (vi (nI i))] [] s3) ∧ (¬ x2 = x4 → (((nI 0) = 0 ∨ (nI 0) = 1) ∧ (Q (some (vi (nI 0))) s3 ∧ s3.1 = Bm mf L))))))))))))
  rw [addN i 1, addN i 2, ix (n := i + 1) (by omega), ix (n := i + 2) (by omega), c12, lw.2.2.2.2 (i + 1), lw.2.2.2.2 (i + 2)]
  refine ⟨inb (by omega) (by omega), inb (by omega) (by omega), by omega, law_call oa le lw (fun h1 l1 => ?_)⟩
  have d11 : h1.1.1 = 266 + 10 * m' := congrArg Prod.fst l1.2.1
  have d12 : h1.1.2.2 = L := congrArg (fun q => q.2.2) l1.2.1
  rw [d12, l1.2.2.2.2.2 (i + 1), l1.2.2.2.2.2 (i + 2)]
  exact ⟨inb (by omega) (by omega), inb (by omega) (by omega), by omega, law_call2 oa le l1 (fun h2 i2 l2 => ⟨fun _ => K h2 i2 l2, fun w => absurd rfl w⟩)⟩
set_option maxRecDepth 6000 in
theorem lc_7 (hL : L ≤ 2048) (hi : i + 4 ≤ L) (oa : OpAt L 76 160 [vi (xs (i + 1)), vi (xs (i + 2)), vi (xs (i + 3))] m n t D x v m' n' t' D' x') (le : m' ≤ mf) (lw : LwI L xs m n t D x h) (K : ∀ h2, InP D' x' → LwI L xs m' n' t' D' x' h2 → Sat false 36 204 (Bm mf L) Q 846 [some (vr 0 0), some (vr 1 0), some (vr 233 0), some (vi (nI i))] [] h2) : Sat false 36 204 (Bm mf L) Q 345 [some (vr 0 0), some (vr 1 0), some (vr 233 0), some (vi (nI i))] [] h := by
  have c11 : h.1.1 = 266 + 10 * m := congrArg Prod.fst lw.2.1
  have c12 : h.1.2.2 = L := congrArg (fun q => q.2.2) lw.2.1
  refine wp_ok (cut := [846]) ma_204 rfl 37 _ _ _ _ ?_
  show (vp_in ((nI i) + (nI 1)) h.1.2.2 ∧ (vp_in ((nI i) + (nI 2)) h.1.2.2 ∧ (vp_in ((nI i) + (nI 3)) h.1.2.2 ∧ (1 < h.1.1 ∧ CalI false 35 76 [vr 1 0, vi (hI h 0 0 (((nI i) + (nI 1)).toNatClampNeg)), vi (hI h 0 0 (((nI i) + (nI 2)).toNatClampNeg)), vi (hI h 0 0 (((nI i) + (nI 3)).toNatClampNeg))] h (Bm mf L) (fun x2 s1 => (vp_in ((nI i) + (nI 1)) s1.1.2.2 ∧ (vp_in ((nI i) + (nI 2)) s1.1.2.2 ∧ (vp_in ((nI i) + (nI 3)) s1.1.2.2 ∧ (233 < s1.1.1 ∧ CalI false 35 160 [vr 233 0, vi (hI s1 0 0 (((nI i) + (nI 1)).toNatClampNeg)), vi (hI s1 0 0 (((nI i) + (nI 2)).toNatClampNeg)), vi (hI s1 0 0 (((nI i) + (nI 3)).toNatClampNeg))] s1 (Bm mf L) (fun x4 s3 => ((x2 = x4 → Sat false 36 204 (Bm mf L) Q 846 [some (vr 0 0), some (vr 1 0), some (vr 233 0), some (vi (nI i))] [] s3) ∧ (¬ x2 = x4 → (((nI 0) = 0 ∨ (nI 0) = 1) ∧ (Q (some (vi (nI 0))) s3 ∧ s3.1 = Bm mf L))))))))))))))
  rw [addN i 1, addN i 2, addN i 3, ix (n := i + 1) (by omega), ix (n := i + 2) (by omega), ix (n := i + 3) (by omega), c12, lw.2.2.2.2 (i + 1), lw.2.2.2.2 (i + 2), lw.2.2.2.2 (i + 3)]
  refine ⟨inb (by omega) (by omega), inb (by omega) (by omega), inb (by omega) (by omega), by omega, law_call oa le lw (fun h1 l1 => ?_)⟩
  have d11 : h1.1.1 = 266 + 10 * m' := congrArg Prod.fst l1.2.1
  have d12 : h1.1.2.2 = L := congrArg (fun q => q.2.2) l1.2.1
  rw [d12, l1.2.2.2.2.2 (i + 1), l1.2.2.2.2.2 (i + 2), l1.2.2.2.2.2 (i + 3)]
  exact ⟨inb (by omega) (by omega), inb (by omega) (by omega), inb (by omega) (by omega), by omega, law_call2 oa le l1 (fun h2 i2 l2 => ⟨fun _ => K h2 i2 l2, fun w => absurd rfl w⟩)⟩
set_option maxRecDepth 6000 in
theorem lc_8 (hL : L ≤ 2048) (hi : i + 4 ≤ L) (oa : OpAt L 77 161 [vi (xs (i + 1)), vi (xs (i + 2)), vi (xs (i + 3))] m n t D x v m' n' t' D' x') (le : m' ≤ mf) (lw : LwI L xs m n t D x h) (K : ∀ h2, InP D' x' → LwI L xs m' n' t' D' x' h2 → Sat false 36 204 (Bm mf L) Q 846 [some (vr 0 0), some (vr 1 0), some (vr 233 0), some (vi (nI i))] [] h2) : Sat false 36 204 (Bm mf L) Q 388 [some (vr 0 0), some (vr 1 0), some (vr 233 0), some (vi (nI i))] [] h := by
  have c11 : h.1.1 = 266 + 10 * m := congrArg Prod.fst lw.2.1
  have c12 : h.1.2.2 = L := congrArg (fun q => q.2.2) lw.2.1
  refine wp_ok (cut := [846]) ma_204 rfl 37 _ _ _ _ ?_
  show (vp_in ((nI i) + (nI 1)) h.1.2.2 ∧ (vp_in ((nI i) + (nI 2)) h.1.2.2 ∧ (vp_in ((nI i) + (nI 3)) h.1.2.2 ∧ (1 < h.1.1 ∧ CalI false 35 77 [vr 1 0, vi (hI h 0 0 (((nI i) + (nI 1)).toNatClampNeg)), vi (hI h 0 0 (((nI i) + (nI 2)).toNatClampNeg)), vi (hI h 0 0 (((nI i) + (nI 3)).toNatClampNeg))] h (Bm mf L) (fun x2 s1 => (vp_in ((nI i) + (nI 1)) s1.1.2.2 ∧ (vp_in ((nI i) + (nI 2)) s1.1.2.2 ∧ (vp_in ((nI i) + (nI 3)) s1.1.2.2 ∧ (233 < s1.1.1 ∧ CalI false 35 161 [vr 233 0, vi (hI s1 0 0 (((nI i) + (nI 1)).toNatClampNeg)), vi (hI s1 0 0 (((nI i) + (nI 2)).toNatClampNeg)), vi (hI s1 0 0 (((nI i) + (nI 3)).toNatClampNeg))] s1 (Bm mf L) (fun x4 s3 => ((x2 = x4 → Sat false 36 204 (Bm mf L) Q 846 [some (vr 0 0), some (vr 1 0), some (vr 233 0), some (vi (nI i))] [] s3) ∧ (¬ x2 = x4 → (((nI 0) = 0 ∨ (nI 0) = 1) ∧ (Q (some (vi (nI 0))) s3 ∧ s3.1 = Bm mf L))))))))))))))
  rw [addN i 1, addN i 2, addN i 3, ix (n := i + 1) (by omega), ix (n := i + 2) (by omega), ix (n := i + 3) (by omega), c12, lw.2.2.2.2 (i + 1), lw.2.2.2.2 (i + 2), lw.2.2.2.2 (i + 3)]
  refine ⟨inb (by omega) (by omega), inb (by omega) (by omega), inb (by omega) (by omega), by omega, law_call oa le lw (fun h1 l1 => ?_)⟩
  have d11 : h1.1.1 = 266 + 10 * m' := congrArg Prod.fst l1.2.1
  have d12 : h1.1.2.2 = L := congrArg (fun q => q.2.2) l1.2.1
  rw [d12, l1.2.2.2.2.2 (i + 1), l1.2.2.2.2.2 (i + 2), l1.2.2.2.2.2 (i + 3)]
  exact ⟨inb (by omega) (by omega), inb (by omega) (by omega), inb (by omega) (by omega), by omega, law_call2 oa le l1 (fun h2 i2 l2 => ⟨fun _ => K h2 i2 l2, fun w => absurd rfl w⟩)⟩
set_option maxRecDepth 6000 in
theorem lc_9 (hL : L ≤ 2048) (hi : i + 4 ≤ L) (oa : OpAt L 78 162 [vi (xs (i + 1)), vi (xs (i + 2)), vi (xs (i + 3))] m n t D x v m' n' t' D' x') (le : m' ≤ mf) (lw : LwI L xs m n t D x h) (K : ∀ h2, InP D' x' → LwI L xs m' n' t' D' x' h2 → Sat false 36 204 (Bm mf L) Q 846 [some (vr 0 0), some (vr 1 0), some (vr 233 0), some (vi (nI i))] [] h2) : Sat false 36 204 (Bm mf L) Q 431 [some (vr 0 0), some (vr 1 0), some (vr 233 0), some (vi (nI i))] [] h := by
  have c11 : h.1.1 = 266 + 10 * m := congrArg Prod.fst lw.2.1
  have c12 : h.1.2.2 = L := congrArg (fun q => q.2.2) lw.2.1
  refine wp_ok (cut := [846]) ma_204 rfl 37 _ _ _ _ ?_
  show (vp_in ((nI i) + (nI 1)) h.1.2.2 ∧ (vp_in ((nI i) + (nI 2)) h.1.2.2 ∧ (vp_in ((nI i) + (nI 3)) h.1.2.2 ∧ (1 < h.1.1 ∧ CalI false 35 78 [vr 1 0, vi (hI h 0 0 (((nI i) + (nI 1)).toNatClampNeg)), vi (hI h 0 0 (((nI i) + (nI 2)).toNatClampNeg)), vi (hI h 0 0 (((nI i) + (nI 3)).toNatClampNeg))] h (Bm mf L) (fun x2 s1 => (vp_in ((nI i) + (nI 1)) s1.1.2.2 ∧ (vp_in ((nI i) + (nI 2)) s1.1.2.2 ∧ (vp_in ((nI i) + (nI 3)) s1.1.2.2 ∧ (233 < s1.1.1 ∧ CalI false 35 162 [vr 233 0, vi (hI s1 0 0 (((nI i) + (nI 1)).toNatClampNeg)), vi (hI s1 0 0 (((nI i) + (nI 2)).toNatClampNeg)), vi (hI s1 0 0 (((nI i) + (nI 3)).toNatClampNeg))] s1 (Bm mf L) (fun x4 s3 => ((x2 = x4 → Sat false 36 204 (Bm mf L) Q 846 [some (vr 0 0), some (vr 1 0), some (vr 233 0), some (vi (nI i))] [] s3) ∧ (¬ x2 = x4 → (((nI 0) = 0 ∨ (nI 0) = 1) ∧ (Q (some (vi (nI 0))) s3 ∧ s3.1 = Bm mf L))))))))))))))
  rw [addN i 1, addN i 2, addN i 3, ix (n := i + 1) (by omega), ix (n := i + 2) (by omega), ix (n := i + 3) (by omega), c12, lw.2.2.2.2 (i + 1), lw.2.2.2.2 (i + 2), lw.2.2.2.2 (i + 3)]
  refine ⟨inb (by omega) (by omega), inb (by omega) (by omega), inb (by omega) (by omega), by omega, law_call oa le lw (fun h1 l1 => ?_)⟩
  have d11 : h1.1.1 = 266 + 10 * m' := congrArg Prod.fst l1.2.1
  have d12 : h1.1.2.2 = L := congrArg (fun q => q.2.2) l1.2.1
  rw [d12, l1.2.2.2.2.2 (i + 1), l1.2.2.2.2.2 (i + 2), l1.2.2.2.2.2 (i + 3)]
  exact ⟨inb (by omega) (by omega), inb (by omega) (by omega), inb (by omega) (by omega), by omega, law_call2 oa le l1 (fun h2 i2 l2 => ⟨fun _ => K h2 i2 l2, fun w => absurd rfl w⟩)⟩
set_option maxRecDepth 6000 in
theorem lc_10 (hL : L ≤ 2048) (hi : i + 4 ≤ L) (oa : OpAt L 79 164 [] m n t D x v m' n' t' D' x') (le : m' ≤ mf) (lw : LwI L xs m n t D x h) (K : ∀ h2, InP D' x' → LwI L xs m' n' t' D' x' h2 → Sat false 36 204 (Bm mf L) Q 846 [some (vr 0 0), some (vr 1 0), some (vr 233 0), some (vi (nI i))] [] h2) : Sat false 36 204 (Bm mf L) Q 474 [some (vr 0 0), some (vr 1 0), some (vr 233 0), some (vi (nI i))] [] h := by
  have c11 : h.1.1 = 266 + 10 * m := congrArg Prod.fst lw.2.1
  refine wp_ok (cut := [846]) ma_204 rfl 7 _ _ _ _ ?_
  show (1 < h.1.1 ∧ CalI false 35 79 [vr 1 0] h (Bm mf L) (fun x2 s1 => (233 < s1.1.1 ∧ CalI false 35 164 [vr 233 0] s1 (Bm mf L) (fun x4 s3 => ((x2 = x4 → Sat false 36 204 (Bm mf L) Q 846 [some (vr 0 0), some (vr 1 0), some (vr 233 0), some (vi (nI i))] [] s3) ∧ (¬ x2 = x4 → (((nI 0) = 0 ∨ (nI 0) = 1) ∧ (Q (some (vi (nI 0))) s3 ∧ s3.1 = Bm mf L))))))))
  refine ⟨by omega, law_call oa le lw (fun h1 l1 => ?_)⟩
  have d11 : h1.1.1 = 266 + 10 * m' := congrArg Prod.fst l1.2.1
  exact ⟨by omega, law_call2 oa le l1 (fun h2 i2 l2 => ⟨fun _ => K h2 i2 l2, fun w => absurd rfl w⟩)⟩
set_option maxRecDepth 6000 in
theorem lc_11 (hL : L ≤ 2048) (hi : i + 4 ≤ L) (oa : OpAt L 80 168 [] m n t D x v m' n' t' D' x') (le : m' ≤ mf) (lw : LwI L xs m n t D x h) (K : ∀ h2, InP D' x' → LwI L xs m' n' t' D' x' h2 → Sat false 36 204 (Bm mf L) Q 846 [some (vr 0 0), some (vr 1 0), some (vr 233 0), some (vi (nI i))] [] h2) : Sat false 36 204 (Bm mf L) Q 487 [some (vr 0 0), some (vr 1 0), some (vr 233 0), some (vi (nI i))] [] h := by
  have c11 : h.1.1 = 266 + 10 * m := congrArg Prod.fst lw.2.1
  refine wp_ok (cut := [846]) ma_204 rfl 7 _ _ _ _ ?_
  show (1 < h.1.1 ∧ CalI false 35 80 [vr 1 0] h (Bm mf L) (fun x2 s1 => (233 < s1.1.1 ∧ CalI false 35 168 [vr 233 0] s1 (Bm mf L) (fun x4 s3 => ((x2 = x4 → Sat false 36 204 (Bm mf L) Q 846 [some (vr 0 0), some (vr 1 0), some (vr 233 0), some (vi (nI i))] [] s3) ∧ (¬ x2 = x4 → (((nI 0) = 0 ∨ (nI 0) = 1) ∧ (Q (some (vi (nI 0))) s3 ∧ s3.1 = Bm mf L))))))))
  refine ⟨by omega, law_call oa le lw (fun h1 l1 => ?_)⟩
  have d11 : h1.1.1 = 266 + 10 * m' := congrArg Prod.fst l1.2.1
  exact ⟨by omega, law_call2 oa le l1 (fun h2 i2 l2 => ⟨fun _ => K h2 i2 l2, fun w => absurd rfl w⟩)⟩
set_option maxRecDepth 6000 in
theorem lc_12 (hL : L ≤ 2048) (hi : i + 4 ≤ L) (oa : OpAt L 81 170 [vi (xs (i + 1))] m n t D x v m' n' t' D' x') (le : m' ≤ mf) (lw : LwI L xs m n t D x h) (K : ∀ h2, InP D' x' → LwI L xs m' n' t' D' x' h2 → Sat false 36 204 (Bm mf L) Q 846 [some (vr 0 0), some (vr 1 0), some (vr 233 0), some (vi (nI i))] [] h2) : Sat false 36 204 (Bm mf L) Q 500 [some (vr 0 0), some (vr 1 0), some (vr 233 0), some (vi (nI i))] [] h := by
  have c11 : h.1.1 = 266 + 10 * m := congrArg Prod.fst lw.2.1
  have c12 : h.1.2.2 = L := congrArg (fun q => q.2.2) lw.2.1
  refine wp_ok (cut := [846]) ma_204 rfl 17 _ _ _ _ ?_
  show (vp_in ((nI i) + (nI 1)) h.1.2.2 ∧ (1 < h.1.1 ∧ CalI false 35 81 [vr 1 0, vi (hI h 0 0 (((nI i) + (nI 1)).toNatClampNeg))] h (Bm mf L) (fun x2 s1 => (vp_in ((nI i) + (nI 1)) s1.1.2.2 ∧ (233 < s1.1.1 ∧ CalI false 35 170 [vr 233 0, vi (hI s1 0 0 (((nI i) + (nI 1)).toNatClampNeg))] s1 (Bm mf L) (fun x4 s3 => ((x2 = x4 → Sat false 36 204 (Bm mf L) Q 846 [some (vr 0 0), some (vr 1 0), some (vr 233 0), some (vi (nI i))] [] s3) ∧ (¬ x2 = x4 → (((nI 0) = 0 ∨ (nI 0) = 1) ∧ (Q (some (vi (nI 0))) s3 ∧ s3.1 = Bm mf L))))))))))
  rw [addN i 1, ix (n := i + 1) (by omega), c12, lw.2.2.2.2 (i + 1)]
  refine ⟨inb (by omega) (by omega), by omega, law_call oa le lw (fun h1 l1 => ?_)⟩
  have d11 : h1.1.1 = 266 + 10 * m' := congrArg Prod.fst l1.2.1
  have d12 : h1.1.2.2 = L := congrArg (fun q => q.2.2) l1.2.1
  rw [d12, l1.2.2.2.2.2 (i + 1)]
  exact ⟨inb (by omega) (by omega), by omega, law_call2 oa le l1 (fun h2 i2 l2 => ⟨fun _ => K h2 i2 l2, fun w => absurd rfl w⟩)⟩
set_option maxRecDepth 6000 in
theorem lc_13 (hL : L ≤ 2048) (hi : i + 4 ≤ L) (oa : OpAt L 82 171 [vi (xs (i + 1)), vi (xs (i + 2))] m n t D x v m' n' t' D' x') (le : m' ≤ mf) (lw : LwI L xs m n t D x h) (K : ∀ h2, InP D' x' → LwI L xs m' n' t' D' x' h2 → Sat false 36 204 (Bm mf L) Q 846 [some (vr 0 0), some (vr 1 0), some (vr 233 0), some (vi (nI i))] [] h2) : Sat false 36 204 (Bm mf L) Q 523 [some (vr 0 0), some (vr 1 0), some (vr 233 0), some (vi (nI i))] [] h := by
  have c11 : h.1.1 = 266 + 10 * m := congrArg Prod.fst lw.2.1
  have c12 : h.1.2.2 = L := congrArg (fun q => q.2.2) lw.2.1
  refine wp_ok (cut := [846]) ma_204 rfl 27 _ _ _ _ ?_
  show (vp_in ((nI i) + (nI 1)) h.1.2.2 ∧ (vp_in ((nI i) + (nI 2)) h.1.2.2 ∧ (1 < h.1.1 ∧ CalI false 35 82 [vr 1 0, vi (hI h 0 0 (((nI i) + (nI 1)).toNatClampNeg)), vi (hI h 0 0 (((nI i) + (nI 2)).toNatClampNeg))] h (Bm mf L) (fun x2 s1 => (vp_in ((nI i) + (nI 1)) s1.1.2.2 ∧ (vp_in ((nI i) + (nI 2)) s1.1.2.2 ∧ (233 < s1.1.1 ∧ CalI false 35 171 [vr 233 0, vi (hI s1 0 0 (((nI i) + (nI 1)).toNatClampNeg)), vi (hI s1 0 0 (((nI i) + (nI 2)).toNatClampNeg))] s1 (Bm mf L) (fun x4 s3 => ((x2 = x4 → Sat false 36 204 (Bm mf L) Q 846 [some (vr 0 0), some (vr 1 0), some (vr 233 0), some (vi (nI i))] [] s3) ∧ (¬ x2 = x4 → (((nI 0) = 0 ∨ (nI 0) = 1) ∧ (Q (some (vi (nI 0))) s3 ∧ s3.1 = Bm mf L))))))))))))
  rw [addN i 1, addN i 2, ix (n := i + 1) (by omega), ix (n := i + 2) (by omega), c12, lw.2.2.2.2 (i + 1), lw.2.2.2.2 (i + 2)]
  refine ⟨inb (by omega) (by omega), inb (by omega) (by omega), by omega, law_call oa le lw (fun h1 l1 => ?_)⟩
  have d11 : h1.1.1 = 266 + 10 * m' := congrArg Prod.fst l1.2.1
  have d12 : h1.1.2.2 = L := congrArg (fun q => q.2.2) l1.2.1
  rw [d12, l1.2.2.2.2.2 (i + 1), l1.2.2.2.2.2 (i + 2)]
  exact ⟨inb (by omega) (by omega), inb (by omega) (by omega), by omega, law_call2 oa le l1 (fun h2 i2 l2 => ⟨fun _ => K h2 i2 l2, fun w => absurd rfl w⟩)⟩
set_option maxRecDepth 6000 in
theorem lc_14 (hL : L ≤ 2048) (hi : i + 4 ≤ L) (oa : OpAt L 83 179 [vi (xs (i + 1)), vi (xs (i + 2)), vi (xs (i + 3))] m n t D x v m' n' t' D' x') (le : m' ≤ mf) (lw : LwI L xs m n t D x h) (K : ∀ h2, InP D' x' → LwI L xs m' n' t' D' x' h2 → Sat false 36 204 (Bm mf L) Q 846 [some (vr 0 0), some (vr 1 0), some (vr 233 0), some (vi (nI i))] [] h2) : Sat false 36 204 (Bm mf L) Q 556 [some (vr 0 0), some (vr 1 0), some (vr 233 0), some (vi (nI i))] [] h := by
  have c11 : h.1.1 = 266 + 10 * m := congrArg Prod.fst lw.2.1
  have c12 : h.1.2.2 = L := congrArg (fun q => q.2.2) lw.2.1
  refine wp_ok (cut := [846]) ma_204 rfl 37 _ _ _ _ ?_
  show (vp_in ((nI i) + (nI 1)) h.1.2.2 ∧ (vp_in ((nI i) + (nI 2)) h.1.2.2 ∧ (vp_in ((nI i) + (nI 3)) h.1.2.2 ∧ (1 < h.1.1 ∧ CalI false 35 83 [vr 1 0, vi (hI h 0 0 (((nI i) + (nI 1)).toNatClampNeg)), vi (hI h 0 0 (((nI i) + (nI 2)).toNatClampNeg)), vi (hI h 0 0 (((nI i) + (nI 3)).toNatClampNeg))] h (Bm mf L) (fun x2 s1 => (vp_in ((nI i) + (nI 1)) s1.1.2.2 ∧ (vp_in ((nI i) + (nI 2)) s1.1.2.2 ∧ (vp_in ((nI i) + (nI 3)) s1.1.2.2 ∧ (233 < s1.1.1 ∧ CalI false 35 179 [vr 233 0, vi (hI s1 0 0 (((nI i) + (nI 1)).toNatClampNeg)), vi (hI s1 0 0 (((nI i) + (nI 2)).toNatClampNeg)), vi (hI s1 0 0 (((nI i) + (nI 3)).toNatClampNeg))] s1 (Bm mf L) (fun x4 s3 => ((x2 = x4 → Sat false 36 204 (Bm mf L) Q 846 [some (vr 0 0), some (vr 1 0), some (vr 233 0), some (vi (nI i))] [] s3) ∧ (¬ x2 = x4 → (((nI 0) = 0 ∨ (nI 0) = 1) ∧ (Q (some (vi (nI 0))) s3 ∧ s3.1 = Bm mf L))))))))))))))
  rw [addN i 1, addN i 2, addN i 3, ix (n := i + 1) (by omega), ix (n := i + 2) (by omega), ix (n := i + 3) (by omega), c12, lw.2.2.2.2 (i + 1), lw.2.2.2.2 (i + 2), lw.2.2.2.2 (i + 3)]
  refine ⟨inb (by omega) (by omega), inb (by omega) (by omega), inb (by omega) (by omega), by omega, law_call oa le lw (fun h1 l1 => ?_)⟩
  have d11 : h1.1.1 = 266 + 10 * m' := congrArg Prod.fst l1.2.1
  have d12 : h1.1.2.2 = L := congrArg (fun q => q.2.2) l1.2.1
  rw [d12, l1.2.2.2.2.2 (i + 1), l1.2.2.2.2.2 (i + 2), l1.2.2.2.2.2 (i + 3)]
  exact ⟨inb (by omega) (by omega), inb (by omega) (by omega), inb (by omega) (by omega), by omega, law_call2 oa le l1 (fun h2 i2 l2 => ⟨fun _ => K h2 i2 l2, fun w => absurd rfl w⟩)⟩
set_option maxRecDepth 6000 in
theorem lc_15 (hL : L ≤ 2048) (hi : i + 4 ≤ L) (oa : OpAt L 84 182 [vi (xs (i + 1))] m n t D x v m' n' t' D' x') (le : m' ≤ mf) (lw : LwI L xs m n t D x h) (K : ∀ h2, InP D' x' → LwI L xs m' n' t' D' x' h2 → Sat false 36 204 (Bm mf L) Q 846 [some (vr 0 0), some (vr 1 0), some (vr 233 0), some (vi (nI i))] [] h2) : Sat false 36 204 (Bm mf L) Q 599 [some (vr 0 0), some (vr 1 0), some (vr 233 0), some (vi (nI i))] [] h := by
  have c11 : h.1.1 = 266 + 10 * m := congrArg Prod.fst lw.2.1
  have c12 : h.1.2.2 = L := congrArg (fun q => q.2.2) lw.2.1
  refine wp_ok (cut := [846]) ma_204 rfl 17 _ _ _ _ ?_
  show (vp_in ((nI i) + (nI 1)) h.1.2.2 ∧ (1 < h.1.1 ∧ CalI false 35 84 [vr 1 0, vi (hI h 0 0 (((nI i) + (nI 1)).toNatClampNeg))] h (Bm mf L) (fun x2 s1 => (vp_in ((nI i) + (nI 1)) s1.1.2.2 ∧ (233 < s1.1.1 ∧ CalI false 35 182 [vr 233 0, vi (hI s1 0 0 (((nI i) + (nI 1)).toNatClampNeg))] s1 (Bm mf L) (fun x4 s3 => ((x2 = x4 → Sat false 36 204 (Bm mf L) Q 846 [some (vr 0 0), some (vr 1 0), some (vr 233 0), some (vi (nI i))] [] s3) ∧ (¬ x2 = x4 → (((nI 0) = 0 ∨ (nI 0) = 1) ∧ (Q (some (vi (nI 0))) s3 ∧ s3.1 = Bm mf L))))))))))
  rw [addN i 1, ix (n := i + 1) (by omega), c12, lw.2.2.2.2 (i + 1)]
  refine ⟨inb (by omega) (by omega), by omega, law_call oa le lw (fun h1 l1 => ?_)⟩
  have d11 : h1.1.1 = 266 + 10 * m' := congrArg Prod.fst l1.2.1
  have d12 : h1.1.2.2 = L := congrArg (fun q => q.2.2) l1.2.1
  rw [d12, l1.2.2.2.2.2 (i + 1)]
  exact ⟨inb (by omega) (by omega), by omega, law_call2 oa le l1 (fun h2 i2 l2 => ⟨fun _ => K h2 i2 l2, fun w => absurd rfl w⟩)⟩
set_option maxRecDepth 6000 in
theorem lc_16 (hL : L ≤ 2048) (hi : i + 4 ≤ L) (oa : OpAt L 85 183 [vi (xs (i + 1)), vi (xs (i + 2))] m n t D x v m' n' t' D' x') (le : m' ≤ mf) (lw : LwI L xs m n t D x h) (K : ∀ h2, InP D' x' → LwI L xs m' n' t' D' x' h2 → Sat false 36 204 (Bm mf L) Q 846 [some (vr 0 0), some (vr 1 0), some (vr 233 0), some (vi (nI i))] [] h2) : Sat false 36 204 (Bm mf L) Q 622 [some (vr 0 0), some (vr 1 0), some (vr 233 0), some (vi (nI i))] [] h := by
  have c11 : h.1.1 = 266 + 10 * m := congrArg Prod.fst lw.2.1
  have c12 : h.1.2.2 = L := congrArg (fun q => q.2.2) lw.2.1
  refine wp_ok (cut := [846]) ma_204 rfl 27 _ _ _ _ ?_
  show (vp_in ((nI i) + (nI 1)) h.1.2.2 ∧ (vp_in ((nI i) + (nI 2)) h.1.2.2 ∧ (1 < h.1.1 ∧ CalI false 35 85 [vr 1 0, vi (hI h 0 0 (((nI i) + (nI 1)).toNatClampNeg)), vi (hI h 0 0 (((nI i) + (nI 2)).toNatClampNeg))] h (Bm mf L) (fun x2 s1 => (vp_in ((nI i) + (nI 1)) s1.1.2.2 ∧ (vp_in ((nI i) + (nI 2)) s1.1.2.2 ∧ (233 < s1.1.1 ∧ CalI false 35 183 [vr 233 0, vi (hI s1 0 0 (((nI i) + (nI 1)).toNatClampNeg)), vi (hI s1 0 0 (((nI i) + (nI 2)).toNatClampNeg))] s1 (Bm mf L) (fun x4 s3 => ((x2 = x4 → Sat false 36 204 (Bm mf L) Q 846 [some (vr 0 0), some (vr 1 0), some (vr 233 0), some (vi (nI i))] [] s3) ∧ (¬ x2 = x4 → (((nI 0) = 0 ∨ (nI 0) = 1) ∧ (Q (some (vi (nI 0))) s3 ∧ s3.1 = Bm mf L))))))))))))
  rw [addN i 1, addN i 2, ix (n := i + 1) (by omega), ix (n := i + 2) (by omega), c12, lw.2.2.2.2 (i + 1), lw.2.2.2.2 (i + 2)]
  refine ⟨inb (by omega) (by omega), inb (by omega) (by omega), by omega, law_call oa le lw (fun h1 l1 => ?_)⟩
  have d11 : h1.1.1 = 266 + 10 * m' := congrArg Prod.fst l1.2.1
  have d12 : h1.1.2.2 = L := congrArg (fun q => q.2.2) l1.2.1
  rw [d12, l1.2.2.2.2.2 (i + 1), l1.2.2.2.2.2 (i + 2)]
  exact ⟨inb (by omega) (by omega), inb (by omega) (by omega), by omega, law_call2 oa le l1 (fun h2 i2 l2 => ⟨fun _ => K h2 i2 l2, fun w => absurd rfl w⟩)⟩
set_option maxRecDepth 6000 in
theorem lc_17 (hL : L ≤ 2048) (hi : i + 4 ≤ L) (oa : OpAt L 86 186 [vi (xs (i + 1)), vi (xs (i + 2))] m n t D x v m' n' t' D' x') (le : m' ≤ mf) (lw : LwI L xs m n t D x h) (K : ∀ h2, InP D' x' → LwI L xs m' n' t' D' x' h2 → Sat false 36 204 (Bm mf L) Q 846 [some (vr 0 0), some (vr 1 0), some (vr 233 0), some (vi (nI i))] [] h2) : Sat false 36 204 (Bm mf L) Q 655 [some (vr 0 0), some (vr 1 0), some (vr 233 0), some (vi (nI i))] [] h := by
  have c11 : h.1.1 = 266 + 10 * m := congrArg Prod.fst lw.2.1
  have c12 : h.1.2.2 = L := congrArg (fun q => q.2.2) lw.2.1
  refine wp_ok (cut := [846]) ma_204 rfl 27 _ _ _ _ ?_
  show (vp_in ((nI i) + (nI 1)) h.1.2.2 ∧ (vp_in ((nI i) + (nI 2)) h.1.2.2 ∧ (1 < h.1.1 ∧ CalI false 35 86 [vr 1 0, vi (hI h 0 0 (((nI i) + (nI 1)).toNatClampNeg)), vi (hI h 0 0 (((nI i) + (nI 2)).toNatClampNeg))] h (Bm mf L) (fun x2 s1 => (vp_in ((nI i) + (nI 1)) s1.1.2.2 ∧ (vp_in ((nI i) + (nI 2)) s1.1.2.2 ∧ (233 < s1.1.1 ∧ CalI false 35 186 [vr 233 0, vi (hI s1 0 0 (((nI i) + (nI 1)).toNatClampNeg)), vi (hI s1 0 0 (((nI i) + (nI 2)).toNatClampNeg))] s1 (Bm mf L) (fun x4 s3 => ((x2 = x4 → Sat false 36 204 (Bm mf L) Q 846 [some (vr 0 0), some (vr 1 0), some (vr 233 0), some (vi (nI i))] [] s3) ∧ (¬ x2 = x4 → (((nI 0) = 0 ∨ (nI 0) = 1) ∧ (Q (some (vi (nI 0))) s3 ∧ s3.1 = Bm mf L))))))))))))
  rw [addN i 1, addN i 2, ix (n := i + 1) (by omega), ix (n := i + 2) (by omega), c12, lw.2.2.2.2 (i + 1), lw.2.2.2.2 (i + 2)]
  refine ⟨inb (by omega) (by omega), inb (by omega) (by omega), by omega, law_call oa le lw (fun h1 l1 => ?_)⟩
  have d11 : h1.1.1 = 266 + 10 * m' := congrArg Prod.fst l1.2.1
  have d12 : h1.1.2.2 = L := congrArg (fun q => q.2.2) l1.2.1
  rw [d12, l1.2.2.2.2.2 (i + 1), l1.2.2.2.2.2 (i + 2)]
  exact ⟨inb (by omega) (by omega), inb (by omega) (by omega), by omega, law_call2 oa le l1 (fun h2 i2 l2 => ⟨fun _ => K h2 i2 l2, fun w => absurd rfl w⟩)⟩
set_option maxRecDepth 6000 in
theorem lc_18 (hL : L ≤ 2048) (hi : i + 4 ≤ L) (oa : OpAt L 87 194 [vi (xs (i + 1)), vi (xs (i + 2)), vi (xs (i + 3))] m n t D x v m' n' t' D' x') (le : m' ≤ mf) (lw : LwI L xs m n t D x h) (K : ∀ h2, InP D' x' → LwI L xs m' n' t' D' x' h2 → Sat false 36 204 (Bm mf L) Q 846 [some (vr 0 0), some (vr 1 0), some (vr 233 0), some (vi (nI i))] [] h2) : Sat false 36 204 (Bm mf L) Q 688 [some (vr 0 0), some (vr 1 0), some (vr 233 0), some (vi (nI i))] [] h := by
  have c11 : h.1.1 = 266 + 10 * m := congrArg Prod.fst lw.2.1
  have c12 : h.1.2.2 = L := congrArg (fun q => q.2.2) lw.2.1
  refine wp_ok (cut := [846]) ma_204 rfl 37 _ _ _ _ ?_
  show (vp_in ((nI i) + (nI 1)) h.1.2.2 ∧ (vp_in ((nI i) + (nI 2)) h.1.2.2 ∧ (vp_in ((nI i) + (nI 3)) h.1.2.2 ∧ (1 < h.1.1 ∧ CalI false 35 87 [vr 1 0, vi (hI h 0 0 (((nI i) + (nI 1)).toNatClampNeg)), vi (hI h 0 0 (((nI i) + (nI 2)).toNatClampNeg)), vi (hI h 0 0 (((nI i) + (nI 3)).toNatClampNeg))] h (Bm mf L) (fun x2 s1 => (vp_in ((nI i) + (nI 1)) s1.1.2.2 ∧ (vp_in ((nI i) + (nI 2)) s1.1.2.2 ∧ (vp_in ((nI i) + (nI 3)) s1.1.2.2 ∧ (233 < s1.1.1 ∧ CalI false 35 194 [vr 233 0, vi (hI s1 0 0 (((nI i) + (nI 1)).toNatClampNeg)), vi (hI s1 0 0 (((nI i) + (nI 2)).toNatClampNeg)), vi (hI s1 0 0 (((nI i) + (nI 3)).toNatClampNeg))] s1 (Bm mf L) (fun x4 s3 => ((x2 = x4 → Sat false 36 204 (Bm mf L) Q 846 [some (vr 0 0), some (vr 1 0), some (vr 233 0), some (vi (nI i))] [] s3) ∧ (¬ x2 = x4 → (((nI 0) = 0 ∨ (nI 0) = 1) ∧ (Q (some (vi (nI 0))) s3 ∧ s3.1 = Bm mf L))))))))))))))
  rw [addN i 1, addN i 2, addN i 3, ix (n := i + 1) (by omega), ix (n := i + 2) (by omega), ix (n := i + 3) (by omega), c12, lw.2.2.2.2 (i + 1), lw.2.2.2.2 (i + 2), lw.2.2.2.2 (i + 3)]
  refine ⟨inb (by omega) (by omega), inb (by omega) (by omega), inb (by omega) (by omega), by omega, law_call oa le lw (fun h1 l1 => ?_)⟩
  have d11 : h1.1.1 = 266 + 10 * m' := congrArg Prod.fst l1.2.1
  have d12 : h1.1.2.2 = L := congrArg (fun q => q.2.2) l1.2.1
  rw [d12, l1.2.2.2.2.2 (i + 1), l1.2.2.2.2.2 (i + 2), l1.2.2.2.2.2 (i + 3)]
  exact ⟨inb (by omega) (by omega), inb (by omega) (by omega), inb (by omega) (by omega), by omega, law_call2 oa le l1 (fun h2 i2 l2 => ⟨fun _ => K h2 i2 l2, fun w => absurd rfl w⟩)⟩
set_option maxRecDepth 6000 in
theorem lc_19 (hL : L ≤ 2048) (hi : i + 4 ≤ L) (oa : OpAt L 88 199 [vi (xs (i + 1)), vi (xs (i + 2))] m n t D x v m' n' t' D' x') (le : m' ≤ mf) (lw : LwI L xs m n t D x h) (K : ∀ h2, InP D' x' → LwI L xs m' n' t' D' x' h2 → Sat false 36 204 (Bm mf L) Q 846 [some (vr 0 0), some (vr 1 0), some (vr 233 0), some (vi (nI i))] [] h2) : Sat false 36 204 (Bm mf L) Q 731 [some (vr 0 0), some (vr 1 0), some (vr 233 0), some (vi (nI i))] [] h := by
  have c11 : h.1.1 = 266 + 10 * m := congrArg Prod.fst lw.2.1
  have c12 : h.1.2.2 = L := congrArg (fun q => q.2.2) lw.2.1
  refine wp_ok (cut := [846]) ma_204 rfl 27 _ _ _ _ ?_
  show (vp_in ((nI i) + (nI 1)) h.1.2.2 ∧ (vp_in ((nI i) + (nI 2)) h.1.2.2 ∧ (1 < h.1.1 ∧ CalI false 35 88 [vr 1 0, vi (hI h 0 0 (((nI i) + (nI 1)).toNatClampNeg)), vi (hI h 0 0 (((nI i) + (nI 2)).toNatClampNeg))] h (Bm mf L) (fun x2 s1 => (vp_in ((nI i) + (nI 1)) s1.1.2.2 ∧ (vp_in ((nI i) + (nI 2)) s1.1.2.2 ∧ (233 < s1.1.1 ∧ CalI false 35 199 [vr 233 0, vi (hI s1 0 0 (((nI i) + (nI 1)).toNatClampNeg)), vi (hI s1 0 0 (((nI i) + (nI 2)).toNatClampNeg))] s1 (Bm mf L) (fun x4 s3 => ((x2 = x4 → Sat false 36 204 (Bm mf L) Q 846 [some (vr 0 0), some (vr 1 0), some (vr 233 0), some (vi (nI i))] [] s3) ∧ (¬ x2 = x4 → (((nI 0) = 0 ∨ (nI 0) = 1) ∧ (Q (some (vi (nI 0))) s3 ∧ s3.1 = Bm mf L))))))))))))
  rw [addN i 1, addN i 2, ix (n := i + 1) (by omega), ix (n := i + 2) (by omega), c12, lw.2.2.2.2 (i + 1), lw.2.2.2.2 (i + 2)]
  refine ⟨inb (by omega) (by omega), inb (by omega) (by omega), by omega, law_call oa le lw (fun h1 l1 => ?_)⟩
  have d11 : h1.1.1 = 266 + 10 * m' := congrArg Prod.fst l1.2.1
  have d12 : h1.1.2.2 = L := congrArg (fun q => q.2.2) l1.2.1
  rw [d12, l1.2.2.2.2.2 (i + 1), l1.2.2.2.2.2 (i + 2)]
  exact ⟨inb (by omega) (by omega), inb (by omega) (by omega), by omega, law_call2 oa le l1 (fun h2 i2 l2 => ⟨fun _ => K h2 i2 l2, fun w => absurd rfl w⟩)⟩
set_option maxRecDepth 6000 in
theorem lc_20 (hL : L ≤ 2048) (hi : i + 4 ≤ L) (oa : OpAt L 89 200 [] m n t D x v m' n' t' D' x') (le : m' ≤ mf) (lw : LwI L xs m n t D x h) (K : ∀ h2, InP D' x' → LwI L xs m' n' t' D' x' h2 → Sat false 36 204 (Bm mf L) Q 846 [some (vr 0 0), some (vr 1 0), some (vr 233 0), some (vi (nI i))] [] h2) : Sat false 36 204 (Bm mf L) Q 764 [some (vr 0 0), some (vr 1 0), some (vr 233 0), some (vi (nI i))] [] h := by
  have c11 : h.1.1 = 266 + 10 * m := congrArg Prod.fst lw.2.1
  refine wp_ok (cut := [846]) ma_204 rfl 7 _ _ _ _ ?_
  show (1 < h.1.1 ∧ CalI false 35 89 [vr 1 0] h (Bm mf L) (fun x2 s1 => (233 < s1.1.1 ∧ CalI false 35 200 [vr 233 0] s1 (Bm mf L) (fun x4 s3 => ((x2 = x4 → Sat false 36 204 (Bm mf L) Q 846 [some (vr 0 0), some (vr 1 0), some (vr 233 0), some (vi (nI i))] [] s3) ∧ (¬ x2 = x4 → (((nI 0) = 0 ∨ (nI 0) = 1) ∧ (Q (some (vi (nI 0))) s3 ∧ s3.1 = Bm mf L))))))))
  refine ⟨by omega, law_call oa le lw (fun h1 l1 => ?_)⟩
  have d11 : h1.1.1 = 266 + 10 * m' := congrArg Prod.fst l1.2.1
  exact ⟨by omega, law_call2 oa le l1 (fun h2 i2 l2 => ⟨fun _ => K h2 i2 l2, fun w => absurd rfl w⟩)⟩
set_option maxRecDepth 6000 in
theorem lc_21 (hL : L ≤ 2048) (hi : i + 4 ≤ L) (oa : OpAt L 90 201 [vi (xs (i + 1)), vi (xs (i + 2))] m n t D x v m' n' t' D' x') (le : m' ≤ mf) (lw : LwI L xs m n t D x h) (K : ∀ h2, InP D' x' → LwI L xs m' n' t' D' x' h2 → Sat false 36 204 (Bm mf L) Q 846 [some (vr 0 0), some (vr 1 0), some (vr 233 0), some (vi (nI i))] [] h2) : Sat false 36 204 (Bm mf L) Q 777 [some (vr 0 0), some (vr 1 0), some (vr 233 0), some (vi (nI i))] [] h := by
  have c11 : h.1.1 = 266 + 10 * m := congrArg Prod.fst lw.2.1
  have c12 : h.1.2.2 = L := congrArg (fun q => q.2.2) lw.2.1
  refine wp_ok (cut := [846]) ma_204 rfl 27 _ _ _ _ ?_
  show (vp_in ((nI i) + (nI 1)) h.1.2.2 ∧ (vp_in ((nI i) + (nI 2)) h.1.2.2 ∧ (1 < h.1.1 ∧ CalI false 35 90 [vr 1 0, vi (hI h 0 0 (((nI i) + (nI 1)).toNatClampNeg)), vi (hI h 0 0 (((nI i) + (nI 2)).toNatClampNeg))] h (Bm mf L) (fun x2 s1 => (vp_in ((nI i) + (nI 1)) s1.1.2.2 ∧ (vp_in ((nI i) + (nI 2)) s1.1.2.2 ∧ (233 < s1.1.1 ∧ CalI false 35 201 [vr 233 0, vi (hI s1 0 0 (((nI i) + (nI 1)).toNatClampNeg)), vi (hI s1 0 0 (((nI i) + (nI 2)).toNatClampNeg))] s1 (Bm mf L) (fun x4 s3 => ((x2 = x4 → Sat false 36 204 (Bm mf L) Q 846 [some (vr 0 0), some (vr 1 0), some (vr 233 0), some (vi (nI i))] [] s3) ∧ (¬ x2 = x4 → (((nI 0) = 0 ∨ (nI 0) = 1) ∧ (Q (some (vi (nI 0))) s3 ∧ s3.1 = Bm mf L))))))))))))
  rw [addN i 1, addN i 2, ix (n := i + 1) (by omega), ix (n := i + 2) (by omega), c12, lw.2.2.2.2 (i + 1), lw.2.2.2.2 (i + 2)]
  refine ⟨inb (by omega) (by omega), inb (by omega) (by omega), by omega, law_call oa le lw (fun h1 l1 => ?_)⟩
  have d11 : h1.1.1 = 266 + 10 * m' := congrArg Prod.fst l1.2.1
  have d12 : h1.1.2.2 = L := congrArg (fun q => q.2.2) l1.2.1
  rw [d12, l1.2.2.2.2.2 (i + 1), l1.2.2.2.2.2 (i + 2)]
  exact ⟨inb (by omega) (by omega), inb (by omega) (by omega), by omega, law_call2 oa le l1 (fun h2 i2 l2 => ⟨fun _ => K h2 i2 l2, fun w => absurd rfl w⟩)⟩
set_option maxRecDepth 6000 in
theorem lc_22 (hL : L ≤ 2048) (hi : i + 4 ≤ L) (oa : OpAt L 91 134 [] m n t D x v m' n' t' D' x') (le : m' ≤ mf) (lw : LwI L xs m n t D x h) (K : ∀ h2, InP D' x' → LwI L xs m' n' t' D' x' h2 → Sat false 36 204 (Bm mf L) Q 846 [some (vr 0 0), some (vr 1 0), some (vr 233 0), some (vi (nI i))] [] h2) : Sat false 36 204 (Bm mf L) Q 810 [some (vr 0 0), some (vr 1 0), some (vr 233 0), some (vi (nI i))] [] h := by
  have c11 : h.1.1 = 266 + 10 * m := congrArg Prod.fst lw.2.1
  refine wp_ok (cut := [846]) ma_204 rfl 7 _ _ _ _ ?_
  show (1 < h.1.1 ∧ CalI false 35 91 [vr 1 0] h (Bm mf L) (fun x2 s1 => (233 < s1.1.1 ∧ CalI false 35 134 [vr 233 0] s1 (Bm mf L) (fun x4 s3 => ((x2 = x4 → Sat false 36 204 (Bm mf L) Q 846 [some (vr 0 0), some (vr 1 0), some (vr 233 0), some (vi (nI i))] [] s3) ∧ (¬ x2 = x4 → (((nI 0) = 0 ∨ (nI 0) = 1) ∧ (Q (some (vi (nI 0))) s3 ∧ s3.1 = Bm mf L))))))))
  refine ⟨by omega, law_call oa le lw (fun h1 l1 => ?_)⟩
  have d11 : h1.1.1 = 266 + 10 * m' := congrArg Prod.fst l1.2.1
  exact ⟨by omega, law_call2 oa le l1 (fun h2 i2 l2 => ⟨fun _ => K h2 i2 l2, fun w => absurd rfl w⟩)⟩
set_option maxRecDepth 6000 in
theorem lc_23 (hL : L ≤ 2048) (hi : i + 4 ≤ L) (oa : OpAt L 92 202 [vi (xs (i + 1))] m n t D x v m' n' t' D' x') (le : m' ≤ mf) (lw : LwI L xs m n t D x h) (K : ∀ h2, InP D' x' → LwI L xs m' n' t' D' x' h2 → Sat false 36 204 (Bm mf L) Q 846 [some (vr 0 0), some (vr 1 0), some (vr 233 0), some (vi (nI i))] [] h2) : Sat false 36 204 (Bm mf L) Q 823 [some (vr 0 0), some (vr 1 0), some (vr 233 0), some (vi (nI i))] [] h := by
  have c11 : h.1.1 = 266 + 10 * m := congrArg Prod.fst lw.2.1
  have c12 : h.1.2.2 = L := congrArg (fun q => q.2.2) lw.2.1
  refine wp_ok (cut := [846]) ma_204 rfl 17 _ _ _ _ ?_
  show (vp_in ((nI i) + (nI 1)) h.1.2.2 ∧ (1 < h.1.1 ∧ CalI false 35 92 [vr 1 0, vi (hI h 0 0 (((nI i) + (nI 1)).toNatClampNeg))] h (Bm mf L) (fun x2 s1 => (vp_in ((nI i) + (nI 1)) s1.1.2.2 ∧ (233 < s1.1.1 ∧ CalI false 35 202 [vr 233 0, vi (hI s1 0 0 (((nI i) + (nI 1)).toNatClampNeg))] s1 (Bm mf L) (fun x4 s3 => ((x2 = x4 → Sat false 36 204 (Bm mf L) Q 846 [some (vr 0 0), some (vr 1 0), some (vr 233 0), some (vi (nI i))] [] s3) ∧ (¬ x2 = x4 → (((nI 0) = 0 ∨ (nI 0) = 1) ∧ (Q (some (vi (nI 0))) s3 ∧ s3.1 = Bm mf L))))))))))
  rw [addN i 1, ix (n := i + 1) (by omega), c12, lw.2.2.2.2 (i + 1)]
  refine ⟨inb (by omega) (by omega), by omega, law_call oa le lw (fun h1 l1 => ?_)⟩
  have d11 : h1.1.1 = 266 + 10 * m' := congrArg Prod.fst l1.2.1
  have d12 : h1.1.2.2 = L := congrArg (fun q => q.2.2) l1.2.1
  rw [d12, l1.2.2.2.2.2 (i + 1)]
  exact ⟨inb (by omega) (by omega), by omega, law_call2 oa le l1 (fun h2 i2 l2 => ⟨fun _ => K h2 i2 l2, fun w => absurd rfl w⟩)⟩
end
