/-! from kit/laws (to-paste): longs, holes, ranges -/
/-! ===== lN n to 2^64: shifts, and, or, masks, one bit ===== -/
theorem wb_tb (n : Nat) : (lN n).toBitVec = BitVec.ofNat 64 n := rfl
theorem wb_inj {a b : Int64} (h : a.toBitVec = b.toBitVec) : a = b := Int64.toBitVec_inj.mp h
theorem wb_tn {n : Nat} (h : n < 2 ^ 64) : (lN n).toBitVec.toNat = n := by rw [wb_tb, BitVec.toNat_ofNat, Nat.mod_eq_of_lt h]
theorem wb_of (x : Int64) : ∃ n, n < 2 ^ 64 ∧ x = lN n := ⟨x.toBitVec.toNat, x.toBitVec.isLt, wb_inj (by rw [wb_tb]; simp)⟩
theorem wb_of32 (x : Int32) : ∃ n, n < 2 ^ 32 ∧ x = nI n := ⟨x.toBitVec.toNat, x.toBitVec.isLt, Int32.toBitVec_inj.mp (by show _ = BitVec.ofNat 32 _; simp)⟩
theorem wb_c : ∀ k, k < 64 → ((nI k).toInt64 &&& 63) = lN k := by decide +kernel
theorem wb_cu : ∀ k, k < 64 → ((nI k).toInt64.toUInt64 &&& Int64.toUInt64 63) = UInt64.ofNat k := by decide +kernel
theorem wb_sm : ∀ k, k < 64 → (BitVec.ofNat 64 k).smod 64 = BitVec.ofNat 64 k := by decide +kernel
theorem wb_pw {a b : Nat} (h : a ≤ b) : 2 ^ b = 2 ^ a * 2 ^ (b - a) := by rw [← Nat.pow_add]; congr 1; omega
theorem wb_lt2 {a b : Nat} (h : a < b) : 2 ^ a < 2 ^ b := Nat.pow_lt_pow_right (by decide) h
theorem wb_mod (n : Nat) : lN n = lN (n % 2 ^ 64) := wb_inj (by rw [wb_tb, wb_tb]; apply BitVec.eq_of_toNat_eq; rw [BitVec.toNat_ofNat, BitVec.toNat_ofNat, Nat.mod_mod])
theorem wb_shr {n k : Nat} (hn : n < 2 ^ 64) (hk : k < 64) : ((lN n).toUInt64 >>> ((nI k).toInt64.toUInt64 &&& Int64.toUInt64 63)).toInt64 = lN (n / 2 ^ k) := by
  rw [wb_cu k hk]
  apply wb_inj
  apply BitVec.eq_of_toNat_eq
  show ((lN n).toUInt64 >>> UInt64.ofNat k).toNat = (BitVec.ofNat 64 _).toNat
  have h1 : (UInt64.ofNat k).toNat = k := by
    show (BitVec.ofNat 64 k).toNat = k
    rw [BitVec.toNat_ofNat, Nat.mod_eq_of_lt (by omega)]
  have h2 : (lN n).toUInt64.toNat = n := wb_tn hn
  rw [UInt64.toNat_shiftRight, h1, h2, Nat.mod_eq_of_lt hk, Nat.shiftRight_eq_div_pow, BitVec.toNat_ofNat, Nat.mod_eq_of_lt (Nat.lt_of_le_of_lt (Nat.div_le_self _ _) hn)]
theorem wb_shl (n : Nat) {k : Nat} (hk : k < 64) : lN n <<< ((nI k).toInt64 &&& 63) = lN (n * 2 ^ k) := by
  rw [wb_c k hk]
  apply wb_inj
  rw [Int64.toBitVec_shiftLeft, wb_tb, wb_tb, wb_tb, wb_sm k hk]
  apply BitVec.eq_of_toNat_eq
  rw [BitVec.shiftLeft_eq', BitVec.toNat_shiftLeft, BitVec.toNat_ofNat, BitVec.toNat_ofNat, BitVec.toNat_ofNat, Nat.mod_eq_of_lt (show k < 2 ^ 64 by omega), Nat.shiftLeft_eq, Nat.mul_mod, Nat.mod_mod, ← Nat.mul_mod]
theorem wb_and {a b : Nat} (ha : a < 2 ^ 64) (hb : b < 2 ^ 64) : lN a &&& lN b = lN (a &&& b) := by
  apply wb_inj
  rw [Int64.toBitVec_and, wb_tb, wb_tb, wb_tb]
  apply BitVec.eq_of_toNat_eq
  rw [BitVec.toNat_and, BitVec.toNat_ofNat, BitVec.toNat_ofNat, BitVec.toNat_ofNat, Nat.mod_eq_of_lt ha, Nat.mod_eq_of_lt hb, Nat.mod_eq_of_lt (Nat.and_lt_two_pow _ hb)]
theorem wb_or {a b : Nat} (ha : a < 2 ^ 64) (hb : b < 2 ^ 64) : lN a ||| lN b = lN (a ||| b) := by
  apply wb_inj
  rw [Int64.toBitVec_or, wb_tb, wb_tb, wb_tb]
  apply BitVec.eq_of_toNat_eq
  rw [BitVec.toNat_or, BitVec.toNat_ofNat, BitVec.toNat_ofNat, BitVec.toNat_ofNat, Nat.mod_eq_of_lt ha, Nat.mod_eq_of_lt hb, Nat.mod_eq_of_lt (Nat.or_lt_two_pow ha hb)]
theorem wb_mask {n k : Nat} (hn : n < 2 ^ 64) (hk : k < 64) : lN n &&& lN (2 ^ k - 1) = lN (n % 2 ^ k) := by
  rw [wb_and hn (by have := wb_lt2 hk; omega), Nat.and_two_pow_sub_one_eq_mod]
theorem wb_a1 {n : Nat} (hn : n < 2 ^ 64) : lN n &&& 1 = lN (n % 2) := wb_mask (k := 1) hn (by decide)
theorem wb_bit {n k : Nat} (hn : n < 2 ^ 64) (hk : k < 64) : ((lN n).toUInt64 >>> ((nI k).toInt64.toUInt64 &&& Int64.toUInt64 63)).toInt64 &&& 1 = lN (n / 2 ^ k % 2) := by
  rw [wb_shr hn hk, wb_a1 (Nat.lt_of_le_of_lt (Nat.div_le_self _ _) hn)]
theorem fb_holes : ∀ (m n : Nat) (f : Nat → Nat), (∀ i, i < n → f i < m) → (∀ i j, i < j → j < n → f i ≠ f j) → n ≤ m := by
  intro m
  induction m with
  | zero =>
    intro n f h1 _
    rcases Nat.eq_zero_or_pos n with h | h
    · omega
    · exact absurd (h1 0 h) (Nat.not_lt_zero _)
  | succ m ih =>
    intro n f h1 h2
    by_cases hx : ∃ i, i < n ∧ f i = m
    · obtain ⟨a, ha, hfa⟩ := hx
      have hg := ih (n - 1) (fun i => if i < a then f i else f (i + 1)) (by
        intro i hi
        by_cases q : i < a
        · simp only [if_pos q]
          have b1 := h1 i (by omega)
          have b2 := h2 i a q ha
          omega
        · simp only [if_neg q]
          have b1 := h1 (i + 1) (by omega)
          have b2 := h2 a (i + 1) (by omega) (by omega)
          omega) (by
        intro i j hij hj
        by_cases q : i < a
        · by_cases r : j < a
          · simp only [if_pos q, if_pos r]
            exact h2 i j hij (by omega)
          · simp only [if_pos q, if_neg r]
            exact h2 i (j + 1) (by omega) (by omega)
        · have r : ¬ j < a := by omega
          simp only [if_neg q, if_neg r]
          exact h2 (i + 1) (j + 1) (by omega) (by omega))
      omega
    · have hg := ih n f (fun i hi => by
        have b1 := h1 i hi
        have b2 : f i ≠ m := fun e => hx ⟨i, hi, e⟩
        omega) h2
      omega
/-- two of them in one place -/
theorem fb_twice {m n : Nat} {f : Nat → Nat} (h : ∀ i, i < n → f i < m) (hm : m < n) : ∃ i j, i < j ∧ j < n ∧ f i = f j := by
  refine Classical.byContradiction fun hx => ?_
  have := fb_holes m n f h (fun i j hij hj e => hx ⟨i, j, hij, hj, e⟩)
  omega
/-- as many as places, none twice: each place is taken -/
theorem fb_andL (a b : Nat) : lN a &&& lN b = lN (a &&& b) := by
  apply Int64.toBitVec_inj.1
  show BitVec.ofNat 64 a &&& BitVec.ofNat 64 b = BitVec.ofNat 64 (a &&& b)
  apply BitVec.eq_of_getLsbD_eq
  intro i hi
  simp [hi]
theorem fb_orL (a b : Nat) : lN a ||| lN b = lN (a ||| b) := by
  apply Int64.toBitVec_inj.1
  show BitVec.ofNat 64 a ||| BitVec.ofNat 64 b = BitVec.ofNat 64 (a ||| b)
  apply BitVec.eq_of_getLsbD_eq
  intro i hi
  simp [hi]
theorem fb_xorL (a b : Nat) : lN a ^^^ lN b = lN (a ^^^ b) := by
  apply Int64.toBitVec_inj.1
  show BitVec.ofNat 64 a ^^^ BitVec.ofNat 64 b = BitVec.ofNat 64 (a ^^^ b)
  apply BitVec.eq_of_getLsbD_eq
  intro i hi
  simp [hi]
theorem fb_xorI (a b : Nat) : nI a ^^^ nI b = nI (a ^^^ b) := by
  apply Int32.toBitVec_inj.1
  show BitVec.ofNat 32 a ^^^ BitVec.ofNat 32 b = BitVec.ofNat 32 (a ^^^ b)
  apply BitVec.eq_of_getLsbD_eq
  intro i hi
  simp [hi]
theorem fb_maskL (n k : Nat) : lN n &&& lN (2 ^ k - 1) = lN (n % 2 ^ k) := by rw [fb_andL, Nat.and_two_pow_sub_one_eq_mod]
theorem fb_or_sumL {a k : Nat} (b : Nat) (h : a < 2 ^ k) : lN (2 ^ k * b) ||| lN a = lN (2 ^ k * b + a) := by rw [fb_orL, Nat.two_pow_add_eq_or_of_lt h]
theorem fb_lN_inj {a b : Nat} (ha : a < 2 ^ 63) (hb : b < 2 ^ 63) : lN a = lN b ↔ a = b := by
  constructor
  · intro h
    have h1 : (BitVec.ofNat 64 a).toNat = (BitVec.ofNat 64 b).toNat := congrArg (fun x : Int64 => x.toBitVec.toNat) h
    rw [BitVec.toNat_ofNat, BitVec.toNat_ofNat, Nat.mod_eq_of_lt (by omega), Nat.mod_eq_of_lt (by omega)] at h1
    exact h1
  · rintro rfl; rfl
theorem fb_rng (x : Int32) : -2147483648 ≤ x.toInt ∧ x.toInt < 2147483648 := by
  have h1 := Int32.le_toInt x
  have h2 := Int32.toInt_lt x
  omega
theorem fb_bmod {z : Int} (h1 : -2147483648 ≤ z) (h2 : z < 2147483648) : z.bmod (2 ^ 32) = z := by
  rw [Int.bmod_eq_of_le (by omega) (by omega)]
theorem fb_addI {x y : Int32} (h1 : -2147483648 ≤ x.toInt + y.toInt) (h2 : x.toInt + y.toInt < 2147483648) : (x + y).toInt = x.toInt + y.toInt := by
  rw [Int32.toInt_add, fb_bmod h1 h2]
theorem fb_subI {x y : Int32} (h1 : -2147483648 ≤ x.toInt - y.toInt) (h2 : x.toInt - y.toInt < 2147483648) : (x - y).toInt = x.toInt - y.toInt := by
  rw [Int32.toInt_sub, fb_bmod h1 h2]
theorem fb_mulI {x y : Int32} (h1 : -2147483648 ≤ x.toInt * y.toInt) (h2 : x.toInt * y.toInt < 2147483648) : (x * y).toInt = x.toInt * y.toInt := by
  rw [Int32.toInt_mul, fb_bmod h1 h2]
theorem fb_char {n : Nat} (h : n < 65536) : (nI n).toUInt32.toUInt16.toUInt32.toInt32 = nI n := by
  apply Int32.toBitVec_inj.1
  apply BitVec.eq_of_toNat_eq
  have e1 : (nI n).toBitVec.toNat = n := by
    show (BitVec.ofNat 32 n).toNat = n
    rw [BitVec.toNat_ofNat, Nat.mod_eq_of_lt (by omega)]
  have e2 : ((nI n).toUInt32.toUInt16.toUInt32).toNat = n := by
    rw [UInt16.toNat_toUInt32, UInt32.toNat_toUInt16]
    show (nI n).toBitVec.toNat % 2 ^ 16 = n
    rw [e1, Nat.mod_eq_of_lt (by omega)]
  rw [e1]
  exact e2
theorem fa_lt (a b : Int32) : a < b ↔ a.toInt < b.toInt := Int32.lt_iff_toInt_lt
theorem fa_le (a b : Int32) : a ≤ b ↔ a.toInt ≤ b.toInt := Int32.le_iff_toInt_le
theorem fa_eq (a b : Int32) : a = b ↔ a.toInt = b.toInt := Int32.toInt_inj.symm
theorem fa_lt64 (a b : Int64) : a < b ↔ a.toInt < b.toInt := Int64.lt_iff_toInt_lt
theorem fa_le64 (a b : Int64) : a ≤ b ↔ a.toInt ≤ b.toInt := Int64.le_iff_toInt_le
theorem fa_eq64 (a b : Int64) : a = b ↔ a.toInt = b.toInt := Int64.toInt_inj.symm
/-- a comparison of two ints taken as longs -/
theorem fa_and (a b : Nat) : nI a &&& nI b = nI (a &&& b) := by
  apply Int32.toBitVec_inj.1
  show BitVec.ofNat 32 a &&& BitVec.ofNat 32 b = BitVec.ofNat 32 (a &&& b)
  apply BitVec.eq_of_getLsbD_eq
  intro i hi
  simp [hi]
theorem fa_or (a b : Nat) : nI a ||| nI b = nI (a ||| b) := by
  apply Int32.toBitVec_inj.1
  show BitVec.ofNat 32 a ||| BitVec.ofNat 32 b = BitVec.ofNat 32 (a ||| b)
  apply BitVec.eq_of_getLsbD_eq
  intro i hi
  simp [hi]
/-- a remainder by a power of two, as a mask -/
theorem fa_mask (n k : Nat) : nI n &&& nI (2 ^ k - 1) = nI (n % 2 ^ k) := by rw [fa_and, Nat.and_two_pow_sub_one_eq_mod]
/-- 'or' of a high part and a low one that don't meet is their sum -/
theorem fa_or_sum {a k : Nat} (b : Nat) (h : a < 2 ^ k) : nI (2 ^ k * b) ||| nI a = nI (2 ^ k * b + a) := by rw [fa_or, Nat.two_pow_add_eq_or_of_lt h]

/-! frames and contracts with a predicate of the heap behind -/
def Fr (S : Nat → Nat → Prop) (σ h : Hp) : Prop := h.1 = σ.1 ∧ ∀ f p, ¬ S f p → hI h f p = hI σ f p ∧ hL h f p = hL σ f p ∧ hR h f p = hR σ f p
theorem Fr.rfl' (S : Nat → Nat → Prop) (σ : Hp) : Fr S σ σ := ⟨rfl, fun _ _ _ => ⟨rfl, rfl, rfl⟩⟩
theorem Fr.tr {S : Nat → Nat → Prop} {σ h k : Hp} (a : Fr S σ h) (b : Fr S h k) : Fr S σ k := ⟨b.1.trans a.1, fun f p n => ⟨(b.2 f p n).1.trans (a.2 f p n).1, (b.2 f p n).2.1.trans (a.2 f p n).2.1, (b.2 f p n).2.2.trans (a.2 f p n).2.2⟩⟩
theorem Fr.mo {S T : Nat → Nat → Prop} {σ h : Hp} (a : Fr S σ h) (m : ∀ f p, S f p → T f p) : Fr T σ h := ⟨a.1, fun f p n => a.2 f p fun s => n (m f p s)⟩
theorem Fr.sI {S : Nat → Nat → Prop} {σ h : Hp} (a : Fr S σ h) {f p : Nat} (s : S f p) (k : Nat) (x : Int32) : Fr S σ (setI h f p k x) := by
  refine a.tr ⟨rfl, fun f' p' n => ⟨?_, rfl, rfl⟩⟩
  funext k'
  show (if f' = f ∧ p' = p ∧ k' = k then x else hI h f' p' k') = _
  rw [if_neg (fun q => n (by rw [q.1, q.2.1]; exact s))]
theorem Fr.sL {S : Nat → Nat → Prop} {σ h : Hp} (a : Fr S σ h) {f p : Nat} (s : S f p) (k : Nat) (x : Int64) : Fr S σ (setL h f p k x) := by
  refine a.tr ⟨rfl, fun f' p' n => ⟨rfl, ?_, rfl⟩⟩
  funext k'
  show (if f' = f ∧ p' = p ∧ k' = k then x else hL h f' p' k') = _
  rw [if_neg (fun q => n (by rw [q.1, q.2.1]; exact s))]
theorem Fr.sR {S : Nat → Nat → Prop} {σ h : Hp} (a : Fr S σ h) {f p : Nat} (s : S f p) (k : Nat) (x : Option (Nat × Nat)) : Fr S σ (setR h f p k x) := by
  refine a.tr ⟨rfl, fun f' p' n => ⟨rfl, rfl, ?_⟩⟩
  funext k'
  show (if f' = f ∧ p' = p ∧ k' = k then x else hR h f' p' k') = _
  rw [if_neg (fun q => n (by rw [q.1, q.2.1]; exact s))]
theorem Fr.aI {S : Nat → Nat → Prop} {σ h : Hp} (a : Fr S σ h) {f p : Nat} (s : S f p) (g : Nat → Int32) : Fr S σ (arrI h f p g) := by
  refine a.tr ⟨rfl, fun f' p' n => ⟨?_, rfl, rfl⟩⟩
  funext k'
  show (if f' = f ∧ p' = p then g k' else hI h f' p' k') = _
  rw [if_neg (fun q => n (by rw [q.1, q.2]; exact s))]
theorem Fr.cI {S : Nat → Nat → Prop} {σ h : Hp} (a : Fr S σ h) {f p sp g q dp n : Nat} (s : S g q) : Fr S σ (cpI h f p sp g q dp n) := by
  refine a.tr ⟨rfl, fun f' p' n' => ⟨?_, rfl, rfl⟩⟩
  funext k'
  show (if f' = g ∧ p' = q then _ else hI h f' p' k') = _
  rw [if_neg (fun w => n' (by rw [w.1, w.2]; exact s))]
theorem Fr.cL {S : Nat → Nat → Prop} {σ h : Hp} (a : Fr S σ h) {f p sp g q dp n : Nat} (s : S g q) : Fr S σ (cpL h f p sp g q dp n) := by
  refine a.tr ⟨rfl, fun f' p' n' => ⟨rfl, ?_, rfl⟩⟩
  funext k'
  show (if f' = g ∧ p' = q then _ else hL h f' p' k') = _
  rw [if_neg (fun w => n' (by rw [w.1, w.2]; exact s))]
theorem hI_s (h : Hp) (f p k : Nat) (x : Int32) : hI (setI h f p k x) f p k = x := if_pos ⟨rfl, rfl, rfl⟩
theorem hI_k (h : Hp) (f p : Nat) {k j : Nat} (x : Int32) (n : j ≠ k) : hI (setI h f p k x) f p j = hI h f p j := if_neg fun q => n q.2.2
theorem hL_s (h : Hp) (f p k : Nat) (x : Int64) : hL (setL h f p k x) f p k = x := if_pos ⟨rfl, rfl, rfl⟩
theorem hL_k (h : Hp) (f p : Nat) {k j : Nat} (x : Int64) (n : j ≠ k) : hL (setL h f p k x) f p j = hL h f p j := if_neg fun q => n q.2.2
theorem hI_u (h : Hp) (f p k : Nat) (x : Int32) : hI (setI h f p k x) f p = upd (hI h f p) k x := by
  funext j
  show (if f = f ∧ p = p ∧ j = k then x else hI h f p j) = if j = k then x else hI h f p j
  by_cases e : j = k
  · rw [if_pos ⟨rfl, rfl, e⟩, if_pos e]
  · rw [if_neg (fun q => e q.2.2), if_neg e]
theorem hI_f (h : Hp) {f p f' p' : Nat} (k : Nat) (x : Int32) (n : f' ≠ f ∨ p' ≠ p) : hI (setI h f p k x) f' p' = hI h f' p' := by
  funext j
  show (if f' = f ∧ p' = p ∧ j = k then x else hI h f' p' j) = _
  rw [if_neg (by omega)]
theorem hL_f (h : Hp) {f p f' p' : Nat} (k : Nat) (x : Int64) (n : f' ≠ f ∨ p' ≠ p) : hL (setL h f p k x) f' p' = hL h f' p' := by
  funext j
  show (if f' = f ∧ p' = p ∧ j = k then x else hL h f' p' j) = _
  rw [if_neg (by omega)]
theorem hI_a (h : Hp) (f p : Nat) (g : Nat → Int32) : hI (arrI h f p g) f p = g := funext fun _ => if_pos ⟨rfl, rfl⟩
theorem hI_af (h : Hp) {f p f' p' : Nat} (g : Nat → Int32) (n : f' ≠ f ∨ p' ≠ p) : hI (arrI h f p g) f' p' = hI h f' p' := by
  funext j
  show (if f' = f ∧ p' = p then g j else hI h f' p' j) = _
  rw [if_neg (by omega)]
def PI (d mi : Nat) (as : List AV) (σ : Hp) (v : Int32) (P : Hp → Prop) : Prop := Ev true d mi as σ σ.1 (fun r s => r = some (vi v) ∧ P s)
def PL (d mi : Nat) (as : List AV) (σ : Hp) (v : Int64) (P : Hp → Prop) : Prop := Ev true d mi as σ σ.1 (fun r s => r = some (vl v) ∧ P s)
def PV (d mi : Nat) (as : List AV) (σ : Hp) (P : Hp → Prop) : Prop := Ev true d mi as σ σ.1 (fun r s => r = none ∧ P s)
theorem PI_of {d mi : Nat} {as : List AV} {σ : Hp} {P : Hp → Prop} {v : Int32} {me : MEnt} (hm : MT[mi]? = some me) (hl : (ent as).length ≤ me.2.2.1) (k : ∀ Q : Option AV → Hp → Prop, (∀ h, P h → Q (some (vi v)) h) → Sat true d mi σ.1 Q 0 (entL me.2.2.1 as) [] σ) : PI d mi as σ v P := Ev_of hm hl (Nat.le_refl _) (Nat.le_refl _) (k _ fun _ q => ⟨rfl, q⟩)
theorem PL_of {d mi : Nat} {as : List AV} {σ : Hp} {P : Hp → Prop} {v : Int64} {me : MEnt} (hm : MT[mi]? = some me) (hl : (ent as).length ≤ me.2.2.1) (k : ∀ Q : Option AV → Hp → Prop, (∀ h, P h → Q (some (vl v)) h) → Sat true d mi σ.1 Q 0 (entL me.2.2.1 as) [] σ) : PL d mi as σ v P := Ev_of hm hl (Nat.le_refl _) (Nat.le_refl _) (k _ fun _ q => ⟨rfl, q⟩)
theorem PV_of {d mi : Nat} {as : List AV} {σ : Hp} {P : Hp → Prop} {me : MEnt} (hm : MT[mi]? = some me) (hl : (ent as).length ≤ me.2.2.1) (k : ∀ Q : Option AV → Hp → Prop, (∀ h, P h → Q none h) → Sat true d mi σ.1 Q 0 (entL me.2.2.1 as) [] σ) : PV d mi as σ P := Ev_of hm hl (Nat.le_refl _) (Nat.le_refl _) (k _ fun _ q => ⟨rfl, q⟩)
theorem cp_i {d mj : Nat} {as : List AV} {σ : Hp} {v : Int32} {P : Hp → Prop} {B : Nat × Nat × Nat} {K : Int32 → Hp → Prop} (c : PI d mj as σ v P) (hB : σ.1 = B) (k : ∀ h, P h → h.1 = B → K v h) : CalI true d mj as σ B K := ⟨σ.1, _, c, by rw [hB]; exact Nat.le_refl _, by rw [hB]; exact Nat.le_refl _, fun x s q e => by
  obtain ⟨q1, q2⟩ := q
  cases q1
  exact k s q2 (e.trans hB)⟩
theorem cp_l {d mj : Nat} {as : List AV} {σ : Hp} {v : Int64} {P : Hp → Prop} {B : Nat × Nat × Nat} {K : Int64 → Hp → Prop} (c : PL d mj as σ v P) (hB : σ.1 = B) (k : ∀ h, P h → h.1 = B → K v h) : CalL true d mj as σ B K := ⟨σ.1, _, c, by rw [hB]; exact Nat.le_refl _, by rw [hB]; exact Nat.le_refl _, fun x s q e => by
  obtain ⟨q1, q2⟩ := q
  cases q1
  exact k s q2 (e.trans hB)⟩
theorem cp_v {d mj : Nat} {as : List AV} {σ : Hp} {P : Hp → Prop} {B : Nat × Nat × Nat} {K : Hp → Prop} (c : PV d mj as σ P) (hB : σ.1 = B) (k : ∀ h, P h → h.1 = B → K h) : CalV true d mj as σ B K := ⟨σ.1, _, c, by rw [hB]; exact Nat.le_refl _, by rw [hB]; exact Nat.le_refl _, fun s q e => k s q.2 (e.trans hB)⟩
/-! sets of pages as ints -/
def bt (m : Int32) (p : Nat) : Bool := m.toBitVec.getLsbD p
def bit (p : Nat) : Int32 := nI 1 <<< (nI p &&& 31)
theorem bt_or (a b : Int32) (p : Nat) : bt (a ||| b) p = (bt a p || bt b p) := by
  unfold bt
  rw [Int32.toBitVec_or, BitVec.getLsbD_or]
theorem bt_not (a b : Int32) {p : Nat} (hp : p < 32) : bt (a &&& (b ^^^ (-1))) p = (bt a p && ! bt b p) := by
  unfold bt
  have ha : (-1 : Int32).toBitVec = BitVec.allOnes 32 := by decide
  rw [Int32.toBitVec_and, Int32.toBitVec_xor, ha, BitVec.getLsbD_and, BitVec.getLsbD_xor, BitVec.getLsbD_allOnes]
  simp [hp]
theorem bt_bit : ∀ q, q < 12 → ∀ p, p < 32 → bt (bit q) p = decide (p = q) := by decide +kernel
theorem bt_0 (p : Nat) : bt (nI 0) p = false := by
  unfold bt
  show (0#32).getLsbD p = false
  simp
theorem bt_ext {a b : Int32} (h : ∀ p, p < 32 → bt a p = bt b p) : a = b := by
  apply Int32.toBitVec_inj.1
  apply BitVec.eq_of_getLsbD_eq
  intro i hi
  exact h i hi
theorem sh_c : ∀ p, p < 12 → ((nI p).toUInt32 &&& Int32.toUInt32 31) = UInt32.ofNat p := by decide +kernel
theorem sh_s : ∀ p, p < 12 → ((nI p &&& 31).toBitVec.smod 32).toNat = p := by decide +kernel
theorem b1_of {x : Int32} {b : Bool} (h : x.toBitVec.getLsbD 0 = b) : x &&& nI 1 = bI b := by
  apply Int32.toBitVec_inj.1
  apply BitVec.eq_of_getLsbD_eq
  intro i hi
  rw [Int32.toBitVec_and, BitVec.getLsbD_and]
  have e : (nI 1).toBitVec = 1#32 := rfl
  rw [e]
  by_cases q : i = 0
  · subst q
    rw [h]
    cases b <;> decide
  · have h2 : (1#32).getLsbD i = false := by
      rw [BitVec.getLsbD_one]
      simp [q]
    rw [h2, Bool.and_false]
    cases b
    · show false = (0#32).getLsbD i
      simp
    · show false = (1#32).getLsbD i
      rw [h2]
theorem in_u (m : Int32) {p : Nat} (hp : p < 12) : (m.toUInt32 >>> ((nI p).toUInt32 &&& Int32.toUInt32 31)).toInt32 &&& nI 1 = bI (bt m p) := by
  apply b1_of
  rw [sh_c p hp]
  show (m.toUInt32 >>> UInt32.ofNat p).toBitVec.getLsbD 0 = m.toBitVec.getLsbD p
  have h1 : (UInt32.ofNat p).toBitVec.umod 32 = BitVec.ofNat 32 p := by
    have : ∀ p, p < 12 → (UInt32.ofNat p).toBitVec.umod 32 = BitVec.ofNat 32 p := by decide +kernel
    exact this p hp
  have h2 : (m.toUInt32 >>> UInt32.ofNat p).toBitVec = m.toBitVec >>> p := by
    apply BitVec.eq_of_toNat_eq
    show (m.toUInt32 >>> UInt32.ofNat p).toNat = _
    rw [UInt32.toNat_shiftRight, BitVec.toNat_ushiftRight]
    have : (UInt32.ofNat p).toNat = p := Nat.mod_eq_of_lt (by omega)
    rw [this, Nat.mod_eq_of_lt (by omega)]
    rfl
  rw [h2, BitVec.getLsbD_ushiftRight, Nat.add_zero]
theorem in_s (m : Int32) {p : Nat} (hp : p < 12) : m >>> (nI p &&& 31) &&& nI 1 = bI (bt m p) := by
  apply b1_of
  show (m.toBitVec.sshiftRight' ((nI p &&& 31).toBitVec.smod 32)).getLsbD 0 = m.toBitVec.getLsbD p
  rw [BitVec.sshiftRight_eq', sh_s p hp, BitVec.getLsbD_sshiftRight]
  rw [if_pos (by omega), Nat.add_zero]
  simp
/-! texts in rows -/
def Tx (u : Nat → Int32) : Nat → List Nat → Prop
  | _, [] => True
  | o, c :: r => u o = nI c ∧ Tx u (o + 1) r
theorem Tx_app {u : Nat → Int32} : ∀ {w v : List Nat} {o : Nat}, Tx u o (w ++ v) ↔ Tx u o w ∧ Tx u (o + w.length) v := by
  intro w
  induction w with
  | nil => intro v o; exact ⟨fun h => ⟨trivial, h⟩, fun h => h.2⟩
  | cons c r ih =>
    intro v o
    have e : o + (c :: r).length = o + 1 + r.length := by rw [List.length_cons]; omega
    rw [e]
    show (u o = nI c ∧ Tx u (o + 1) (r ++ v)) ↔ (u o = nI c ∧ Tx u (o + 1) r) ∧ _
    rw [ih]
    exact ⟨fun h => ⟨⟨h.1, h.2.1⟩, h.2.2⟩, fun h => ⟨h.1.1, h.1.2, h.2⟩⟩
theorem Tx_cong {u v : Nat → Int32} : ∀ {w : List Nat} {o : Nat}, Tx u o w → (∀ k, o ≤ k → k < o + w.length → v k = u k) → Tx v o w := by
  intro w
  induction w with
  | nil => intro o _ _; trivial
  | cons c r ih =>
    intro o h g
    rw [List.length_cons] at g
    exact ⟨by rw [g o (by omega) (by omega)]; exact h.1, ih h.2 fun k a b => g k (by omega) (by omega)⟩
theorem Tx_get {u : Nat → Int32} : ∀ {w : List Nat} {o k : Nat}, Tx u o w → k < w.length → u (o + k) = nI (w.getD k 0) := by
  intro w
  induction w with
  | nil => intro o k _ h; cases h
  | cons c r ih =>
    intro o k h g
    cases k with
    | zero => exact h.1
    | succ k =>
      rw [show o + (k + 1) = o + 1 + k by omega]
      exact ih h.2 (Nat.lt_of_succ_lt_succ g)
theorem Tx_of {u : Nat → Int32} : ∀ {w : List Nat} {o : Nat}, (∀ k, k < w.length → u (o + k) = nI (w.getD k 0)) → Tx u o w := by
  intro w
  induction w with
  | nil => intro o _; trivial
  | cons c r ih =>
    intro o h
    refine ⟨h 0 (by rw [List.length_cons]; omega), ih fun k hk => ?_⟩
    have := h (k + 1) (by rw [List.length_cons]; omega)
    rw [show o + (k + 1) = o + 1 + k by omega] at this
    exact this
theorem Tx_sh {u v : Nat → Int32} : ∀ {w : List Nat} {o q : Nat}, Tx u o w → (∀ k, k < w.length → v (q + k) = u (o + k)) → Tx v q w := fun h g => Tx_of fun k hk => by rw [g k hk]; exact Tx_get h hk
theorem Tx_sg {u : Nat → Int32} {t : Nat → Nat} : ∀ {n o a : Nat}, (∀ k, k < n → u (o + k) = nI (t (a + k))) → Tx u o (sg t a n) := by
  intro n
  induction n with
  | zero => intro o a _; trivial
  | succ n ih =>
    intro o a h
    refine ⟨h 0 (by omega), ih fun k hk => ?_⟩
    have := h (k + 1) (by omega)
    rw [show o + (k + 1) = o + 1 + k by omega, show a + (k + 1) = a + 1 + k by omega] at this
    exact this
def small (w : List Nat) : Prop := ∀ c ∈ w, c < 128
theorem nar_c {n : Nat} (h : n < 65536) : vp_nar .char (nI n) = nI n := fb_char h
theorem i2c_n {n : Nat} (h : n < 65536) : ((nI n).toUInt32 % 65536).toInt32 = nI n := by
  apply Int32.toBitVec_inj.1
  apply BitVec.eq_of_toNat_eq
  show ((nI n).toUInt32 % 65536).toNat = (BitVec.ofNat 32 n).toNat
  rw [UInt32.toNat_mod]
  show (BitVec.ofNat 32 n).toNat % 65536 = (BitVec.ofNat 32 n).toNat
  rw [BitVec.toNat_ofNat, Nat.mod_eq_of_lt (show n < 2 ^ 32 by omega), Nat.mod_eq_of_lt h]
theorem i2l_n {n : Nat} (h : n < 2147483648) : (nI n).toInt64 = lN n := by
  apply Int64.toInt_inj.mp
  rw [Int32.toInt_toInt64, pk_lT (by omega), nI_toInt h]
theorem l2i_n {n : Nat} (h : n < 2147483648) : (lN n).toInt32 = nI n := by
  rw [← i2l_n h]
  exact Int32.toInt32_toInt64 _
