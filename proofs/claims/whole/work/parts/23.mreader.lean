/-! the model's reader -/
/-- the model's heap in reading: at is a, the row 'read' is g -/
def mr (σ : Hp) (a : Nat) (g : Nat → Int32) : Hp := setI (arrI σ 237 0 g) 233 0 6 (nI a)
theorem mr_at (σ : Hp) (a b : Nat) (g : Nat → Int32) : setI (mr σ a g) 233 0 6 (nI b) = mr σ b g := setI_setI _ _ _ _ _ _
theorem mr_rd (σ : Hp) (a k : Nat) (g : Nat → Int32) (x : Int32) : setI (mr σ a g) 237 0 k x = mr σ a (upd g k x) := by
  unfold mr
  rw [setI_comm _ _ _ (Or.inl (by decide)), arrI_setI]
def PadM (σ : Hp) (n : Nat) (t : Nat → Nat) : Prop := n ≤ 160 ∧ hI σ 233 0 1 = nI n ∧ ∀ k, k < n → hI σ 234 0 k = nI (t k) ∧ 0 < t k ∧ t k < 128
/-- the row 'read' holds the signs w -/
def RdM (g : Nat → Int32) (w : List Nat) : Prop := g 0 = nI w.length ∧ ∀ k, k < w.length → g (k + 1) = nI (w.getD k 0)
def chr (t : Nat → Nat) (n a : Nat) : Nat := if a < n then t a else 0
def smal (t : Nat → Nat) (n a : Nat) : Bool := decide (a < n ∧ 97 ≤ t a ∧ t a ≤ 122)
def digt (t : Nat → Nat) (n a : Nat) : Bool := decide (a < n ∧ 48 ≤ t a ∧ t a ≤ 57)
section
variable {σ : Hp} {n : Nat} {t : Nat → Nat}
theorem not_ltI {x y : Int32} (h : ¬ x < y) : y ≤ x := Int32.not_lt.mp h
theorem m_inI (d : Nat) (σ : Hp) (v x y : Int32) : EI d 108 [vi v, vi x, vi y] σ (bI (decide (x ≤ v ∧ v ≤ y))) σ := by
  refine EI_of mt_108 (Nat.le_of_ble_eq_true rfl) fun Q hq => ?_
  refine wp_ok (cut := []) ma_108 rfl 9 _ _ _ _ ?_
  show ((v < x → (((nI 0) = 0 ∨ (nI 0) = 1) ∧ (Q (some (vi (nI 0))) σ ∧ σ.1 = σ.1))) ∧ (¬ v < x → ((y < v → (((nI 0) = 0 ∨ (nI 0) = 1) ∧ (Q (some (vi (nI 0))) σ ∧ σ.1 = σ.1))) ∧ (¬ y < v → (((nI 1) = 0 ∨ (nI 1) = 1) ∧ (Q (some (vi (nI 1))) σ ∧ σ.1 = σ.1))))))
  refine ⟨fun h => ?_, fun h => ⟨fun h2 => ?_, fun h2 => ?_⟩⟩
  · rw [decide_eq_false (fun q => Int32.not_lt.mpr q.1 h)] at hq
    exact ⟨Or.inl rfl, hq, rfl⟩
  · rw [decide_eq_false (fun q => Int32.not_lt.mpr q.2 h2)] at hq
    exact ⟨Or.inl rfl, hq, rfl⟩
  · rw [decide_eq_true ⟨not_ltI h, not_ltI h2⟩] at hq
    exact ⟨Or.inr rfl, hq, rfl⟩
theorem m_in (d : Nat) (σ : Hp) {v x y : Nat} (hv : v < 2147483648) (hx : x < 2147483648) (hy : y < 2147483648) : EI d 108 [vi (nI v), vi (nI x), vi (nI y)] σ (bI (decide (x ≤ v ∧ v ≤ y))) σ := by
  have h := m_inI d σ (nI v) (nI x) (nI y)
  rw [decide_eq_decide.mpr (show (nI x ≤ nI v ∧ nI v ≤ nI y) ↔ (x ≤ v ∧ v ≤ y) by rw [leN hx hv, leN hv hy])] at h
  exact h
theorem chr_lt (hp : PadM σ n t) (a : Nat) : chr t n a < 128 := by
  unfold chr
  split
  · rename_i h; exact (hp.2.2 a h).2.2
  · omega
theorem m_next (d : Nat) (hp : PadM σ n t) {a : Nat} (ha : a ≤ n) (g : Nat → Int32) : EI d 115 [vr 233 0] (mr σ a g) (nI (chr t n a)) (mr σ a g) := by
  refine EI_of mt_115 (Nat.le_of_ble_eq_true rfl) fun Q hq => ?_
  obtain ⟨hn, hm, hc⟩ := hp
  refine wp_ok (cut := []) ma_115 rfl 12 _ _ _ _ ?_
  show (((hI σ 233 0 1) ≤ (nI a) → (Q (some (vi (nI 0))) (mr σ a g) ∧ (mr σ a g).1 = (mr σ a g).1)) ∧ (¬ (hI σ 233 0 1) ≤ (nI a) → (vp_in (nI a) 160 ∧ (Q (some (vi (hI σ 234 0 ((nI a).toNatClampNeg)))) (mr σ a g) ∧ (mr σ a g).1 = (mr σ a g).1))))
  rw [hm]
  unfold chr at hq
  refine br_le (by omega) (by omega) (fun h => ?_) (fun h => ?_)
  · rw [if_neg (by omega)] at hq
    exact ⟨hq, rfl⟩
  · rw [if_pos h] at hq
    rw [ix (by omega), (hc a h).1]
    exact ⟨inb (by omega) (by omega), hq, rfl⟩
theorem chr_eq (hp : PadM σ n t) {a c : Nat} (hc : 0 < c) : chr t n a = c ↔ (pT t n c a).1 = true := by
  unfold chr pT pTB
  by_cases h : a < n
  · rw [if_pos h]
    by_cases g : t a = c
    · rw [if_pos ⟨h, by omega, by omega⟩]; exact ⟨fun _ => rfl, fun _ => g⟩
    · rw [if_neg (by omega)]; exact ⟨fun q => absurd q g, fun q => by cases q⟩
  · rw [if_neg h, if_neg (by omega)]; exact ⟨fun q => by omega, fun q => by cases q⟩
theorem chr_in (hp : PadM σ n t) {a x y : Nat} (hx : 0 < x) : decide (x ≤ chr t n a ∧ chr t n a ≤ y) = (pTB t n x y a).1 := by
  unfold chr pTB
  by_cases h : a < n
  · rw [if_pos h]
    by_cases g : x ≤ t a ∧ t a ≤ y
    · rw [if_pos ⟨h, g⟩, decide_eq_true g]
    · rw [if_neg (fun q => g q.2), decide_eq_false g]
  · rw [if_neg h, if_neg (fun q => h q.1), decide_eq_false (by omega)]
theorem pTB_t {x y a : Nat} (h : (pTB t n x y a).1 = true) : (pTB t n x y a).2 = a + 1 ∧ a < n := by
  unfold pTB at h ⊢
  split at h
  · rename_i q; rw [if_pos q]; exact ⟨rfl, q.1⟩
  · cases h
theorem m_isNext (d : Nat) (hp : PadM σ n t) {a c : Nat} (ha : a ≤ n) (hc : 0 < c) (hc2 : c < 128) (g : Nat → Int32) : EI (d + 1) 116 [vr 233 0, vi (nI c)] (mr σ a g) (bI (pT t n c a).1) (mr σ (pT t n c a).2 g) := by
  refine EI_of mt_116 (Nat.le_of_ble_eq_true rfl) fun Q hq => ?_
  refine wp_ok (cut := []) ma_116 rfl 12 _ _ _ _ ?_
  show CalI true d 115 [vr 233 0] (mr σ a g) ((mr σ a g).1) (fun x2 s1 => ((¬ x2 = (nI c) → (((nI 0) = 0 ∨ (nI 0) = 1) ∧ (Q (some (vi (nI 0))) s1 ∧ s1.1 = (mr σ a g).1))) ∧ (x2 = (nI c) → (((nI 1) = 0 ∨ (nI 1) = 1) ∧ (Q (some (vi (nI 1))) (setI s1 233 0 6 ((hI s1 233 0 6) + (nI 1))) ∧ s1.1 = (mr σ a g).1)))))
  have hl := chr_lt hp a
  refine cal_i (m_next d hp ha g) rfl ?_
  refine br_ne (by omega) (by omega) (fun h => ?_) (fun h => ?_)
  · have e : (pT t n c a).1 = false := Bool.eq_false_iff.mpr fun q => h ((chr_eq hp hc).mpr q)
    rw [e, show (pT t n c a).2 = a from pTB_f e] at hq
    exact ⟨Or.inl rfl, hq, rfl⟩
  · have e : (pT t n c a).1 = true := (chr_eq hp hc).mp h
    rw [e, show (pT t n c a).2 = a + 1 from (pTB_t e).1] at hq
    show ((nI 1 = 0 ∨ nI 1 = 1) ∧ (Q (some (vi (nI 1))) (setI (mr σ a g) 233 0 6 (nI a + nI 1)) ∧ _))
    rw [addN, mr_at]
    exact ⟨Or.inr rfl, hq, rfl⟩
theorem m_small (d : Nat) (hp : PadM σ n t) {a : Nat} (ha : a ≤ n) (g : Nat → Int32) : EI (d + 1) 117 [vr 233 0] (mr σ a g) (bI (pTB t n 97 122 a).1) (mr σ a g) := by
  refine EI_of mt_117 (Nat.le_of_ble_eq_true rfl) fun Q hq => ?_
  refine wp_ok (cut := []) ma_117 rfl 6 _ _ _ _ ?_
  show CalI true d 115 [vr 233 0] (mr σ a g) ((mr σ a g).1) (fun x2 s1 => CalI true d 108 [vi x2, vi (nI 97), vi (nI 122)] s1 ((mr σ a g).1) (fun x4 s3 => ((x4 = 0 ∨ x4 = 1) ∧ (Q (some (vi x4)) s3 ∧ s3.1 = (mr σ a g).1))))
  have hl := chr_lt hp a
  refine cal_i (m_next d hp ha g) rfl (cal_i (m_in d _ (by omega) (by omega) (by omega)) rfl ?_)
  rw [chr_in hp (by omega)]
  exact ⟨bI_01 _, hq, rfl⟩
theorem m_digit (d : Nat) (hp : PadM σ n t) {a : Nat} (ha : a ≤ n) (g : Nat → Int32) : EI (d + 1) 118 [vr 233 0] (mr σ a g) (bI (pTB t n 48 57 a).1) (mr σ a g) := by
  refine EI_of mt_118 (Nat.le_of_ble_eq_true rfl) fun Q hq => ?_
  refine wp_ok (cut := []) ma_118 rfl 6 _ _ _ _ ?_
  show CalI true d 115 [vr 233 0] (mr σ a g) ((mr σ a g).1) (fun x2 s1 => CalI true d 108 [vi x2, vi (nI 48), vi (nI 57)] s1 ((mr σ a g).1) (fun x4 s3 => ((x4 = 0 ∨ x4 = 1) ∧ (Q (some (vi x4)) s3 ∧ s3.1 = (mr σ a g).1))))
  have hl := chr_lt hp a
  refine cal_i (m_next d hp ha g) rfl (cal_i (m_in d _ (by omega) (by omega) (by omega)) rfl ?_)
  rw [chr_in hp (by omega)]
  exact ⟨bI_01 _, hq, rfl⟩
theorem m_letter (d : Nat) (hp : PadM σ n t) {a : Nat} (ha : a ≤ n) (g : Nat → Int32) : EI (d + 1) 122 [vr 233 0] (mr σ a g) (bI (pTB t n 65 76 a).1) (mr σ (pTB t n 65 76 a).2 g) := by
  refine EI_of mt_122 (Nat.le_of_ble_eq_true rfl) fun Q hq => ?_
  refine wp_ok (cut := []) ma_122 rfl 14 _ _ _ _ ?_
  show CalI true d 115 [vr 233 0] (mr σ a g) ((mr σ a g).1) (fun x2 s1 => CalI true d 108 [vi x2, vi (nI 65), vi (nI 76)] s1 ((mr σ a g).1) (fun x4 s3 => ((¬ x4 = 0 → (((nI 1) = 0 ∨ (nI 1) = 1) ∧ (Q (some (vi (nI 1))) (setI s3 233 0 6 ((hI s3 233 0 6) + (nI 1))) ∧ s3.1 = (mr σ a g).1))) ∧ (x4 = 0 → (((nI 0) = 0 ∨ (nI 0) = 1) ∧ (Q (some (vi (nI 0))) s3 ∧ s3.1 = (mr σ a g).1))))))
  have hl := chr_lt hp a
  refine cal_i (m_next d hp ha g) rfl (cal_i (m_in d _ (by omega) (by omega) (by omega)) rfl ?_)
  rw [chr_in hp (by omega)]
  cases e : (pTB t n 65 76 a).1 with
  | false =>
    rw [e, pTB_f e] at hq
    exact b_f' ⟨Or.inl rfl, hq, rfl⟩
  | true =>
    rw [e, (pTB_t e).1] at hq
    refine b_t' ?_
    show ((nI 1 = 0 ∨ nI 1 = 1) ∧ (Q (some (vi (nI 1))) (setI (mr σ a g) 233 0 6 (nI a + nI 1)) ∧ _))
    rw [addN, mr_at]
    exact ⟨Or.inr rfl, hq, rfl⟩
/-- keepSign: one sign more in the row -/
theorem RdM_app {g : Nat → Int32} {w : List Nat} (h : RdM g w) (c : Nat) : RdM (upd (upd g 0 (nI (w.length + 1))) (w.length + 1) (nI c)) (w ++ [c]) := by
  refine ⟨?_, fun k hk => ?_⟩
  · show (if 0 = w.length + 1 then _ else if 0 = 0 then nI (w.length + 1) else g 0) = _
    rw [if_neg (by omega), if_pos rfl, List.length_append]
    rfl
  · rw [List.length_append] at hk
    have hk : k < w.length + 1 := hk
    show (if k + 1 = w.length + 1 then nI c else if k + 1 = 0 then nI (w.length + 1) else g (k + 1)) = _
    by_cases e : k = w.length
    · subst e
      rw [if_pos rfl, List.getD_eq_getElem?_getD, List.getElem?_append_right (Nat.le_refl _)]
      simp
    · rw [if_neg (by omega), if_neg (by omega), h.2 k (by omega)]
      rw [List.getD_eq_getElem?_getD, List.getD_eq_getElem?_getD, List.getElem?_append_left (by omega)]
theorem m_keep (d : Nat) (hp : PadM σ n t) {a : Nat} (ha : a ≤ n) {g : Nat → Int32} {w : List Nat} (hg : RdM g w) (hw : w.length < 11) : ∃ g', RdM g' (w ++ [chr t n a]) ∧ EV (d + 1) 119 [vr 233 0] (mr σ a g) (mr σ (a + 1) g') := by
  refine ⟨_, RdM_app hg (chr t n a), EV_of mt_119 (Nat.le_of_ble_eq_true rfl) fun Q hq => ?_⟩
  refine wp_ok (cut := []) ma_119 rfl 24 _ _ _ _ ?_
  show (vp_in (nI 0) 12 ∧ (vp_in (nI 0) 12 ∧ (vp_in (nI 0) 12 ∧ CalI true d 115 [vr 233 0] (setI (mr σ a g) 237 0 0 ((g 0) + (nI 1))) ((mr σ a g).1) (fun x2 s1 => (vp_in ((g 0) + (nI 1)) 12 ∧ (Q none (setI (setI s1 237 0 (((g 0) + (nI 1)).toNatClampNeg) x2) 233 0 6 ((hI s1 233 0 6) + (nI 1))) ∧ s1.1 = (mr σ a g).1))))))
  rw [hg.1, addN, mr_rd]
  refine ⟨inb (by omega) (by omega), inb (by omega) (by omega), inb (by omega) (by omega), cal_i (m_next d hp ha _) rfl ⟨inb (by omega) (by omega), ?_, rfl⟩⟩
  rw [ix (by omega), mr_rd]
  show Q none (setI (mr σ a _) 233 0 6 (nI a + nI 1))
  rw [addN, mr_at]
  exact hq
def ldN (t : Nat → Nat) (n a : Nat) : Bool := (pTB t n 97 122 a).1 || (pTB t n 48 57 a).1
def mNl (t : Nat → Nat) (n : Nat) : Nat → Nat → Bool × Nat
  | 0, a => (! ldN t n a, a)
  | k + 1, a => if ldN t n a then mNl t n k (a + 1) else (true, a)
/-- the signs from a on -/
def sg (t : Nat → Nat) : Nat → Nat → List Nat
  | _, 0 => []
  | a, m + 1 => t a :: sg t (a + 1) m
theorem sg_len (t : Nat → Nat) : ∀ (m a : Nat), (sg t a m).length = m := by
  intro m
  induction m with
  | zero => intro a; rfl
  | succ m ih => intro a; show (sg t (a + 1) m).length + 1 = m + 1; rw [ih]
theorem ldN_lt {a : Nat} (h : ldN t n a = true) : a < n := by
  unfold ldN at h
  rw [Bool.or_eq_true] at h
  rcases h with h | h
  · exact (pTB_t h).2
  · exact (pTB_t h).2
theorem mNl_b : ∀ (k a : Nat), a ≤ n → a ≤ (mNl t n k a).2 ∧ (mNl t n k a).2 ≤ n ∧ (mNl t n k a).2 ≤ a + k := by
  intro k
  induction k with
  | zero => intro a h; exact ⟨Nat.le_refl _, h, Nat.le_refl _⟩
  | succ k ih =>
    intro a h
    unfold mNl
    cases e : ldN t n a with
    | true =>
      rw [if_pos rfl]
      have hl := ldN_lt e
      have := ih (a + 1) hl
      omega
    | false =>
      rw [if_neg (by decide)]
      exact ⟨Nat.le_refl _, h, by show a ≤ a + (k + 1); omega⟩
theorem sg_cons {a b : Nat} (h : a < b) : sg t a (b - a) = t a :: sg t (a + 1) (b - (a + 1)) := by
  obtain ⟨m, hm⟩ : ∃ m, b - a = m + 1 := ⟨b - a - 1, by omega⟩
  rw [hm, show b - (a + 1) = m by omega]
  rfl
theorem s_mname (d : Nat) (hp : PadM σ n t) : ∀ (k a : Nat) (g : Nat → Int32) (w : List Nat), w.length + k = 8 → a ≤ n → RdM g w → ∃ g', RdM g' (w ++ sg t a ((mNl t n k a).2 - a)) ∧ ∀ Q : Option AV → Hp → Prop, Q (some (vi (bI (mNl t n k a).1))) (mr σ (mNl t n k a).2 g') → Sat true (d + 2) 120 σ.1 Q 16 [some (vr 233 0)] [] (mr σ a g) := by
  intro k
  induction k with
  | zero =>
    intro a g w hw ha hg
    refine ⟨g, by show RdM g (w ++ sg t a (a - a)); rw [Nat.sub_self]; show RdM g (w ++ []); rw [List.append_nil]; exact hg, fun Q hq => ?_⟩
    refine wp_ok (cut := [16]) ma_120 rfl 15 _ _ _ _ ?_
    show CalI true (d + 1) 117 [vr 233 0] (mr σ a g) σ.1 (fun x2 s1 => ((¬ x2 = 0 → (vp_in (nI 0) 12 ∧ ((¬ (hI s1 237 0 0) = (nI 8) → CalV true (d + 1) 119 [vr 233 0] s1 σ.1 (fun s3 => Sat true (d + 2) 120 σ.1 Q 16 [some (vr 233 0)] [] s3)) ∧ ((hI s1 237 0 0) = (nI 8) → (((nI 0) = 0 ∨ (nI 0) = 1) ∧ (Q (some (vi (nI 0))) s1 ∧ s1.1 = σ.1)))))) ∧ (x2 = 0 → CalI true (d + 1) 118 [vr 233 0] s1 σ.1 (fun x5 s4 => ((x5 = 0 → (((nI 1) = 0 ∨ (nI 1) = 1) ∧ (Q (some (vi (nI 1))) s4 ∧ s4.1 = σ.1))) ∧ (¬ x5 = 0 → (vp_in (nI 0) 12 ∧ ((¬ (hI s4 237 0 0) = (nI 8) → CalV true (d + 1) 119 [vr 233 0] s4 σ.1 (fun s6 => Sat true (d + 2) 120 σ.1 Q 16 [some (vr 233 0)] [] s6)) ∧ ((hI s4 237 0 0) = (nI 8) → (((nI 0) = 0 ∨ (nI 0) = 1) ∧ (Q (some (vi (nI 0))) s4 ∧ s4.1 = σ.1)))))))))))
    refine cal_i (m_small d hp ha g) rfl ?_
    have hq : Q (some (vi (bI (! ldN t n a)))) (mr σ a g) := hq
    have h8 : w.length = 8 := by omega
    unfold ldN at hq
    cases e : (pTB t n 97 122 a).1 with
    | true =>
      rw [e] at hq
      refine b_t' ?_
      show (vp_in (nI 0) 12 ∧ ((¬ g 0 = nI 8 → _) ∧ (g 0 = nI 8 → _)))
      rw [hg.1, h8]
      exact ⟨inb (by omega) (by omega), fun h => absurd rfl h, fun _ => ⟨Or.inl rfl, hq, rfl⟩⟩
    | false =>
      refine b_f' (cal_i (m_digit d hp ha g) rfl ?_)
      cases e2 : (pTB t n 48 57 a).1 with
      | true =>
        rw [e, e2] at hq
        refine b_t ?_
        show (vp_in (nI 0) 12 ∧ ((¬ g 0 = nI 8 → _) ∧ (g 0 = nI 8 → _)))
        rw [hg.1, h8]
        exact ⟨inb (by omega) (by omega), fun h => absurd rfl h, fun _ => ⟨Or.inl rfl, hq, rfl⟩⟩
      | false =>
        rw [e, e2] at hq
        exact b_f ⟨Or.inr rfl, hq, rfl⟩
  | succ k ih =>
    intro a g w hw ha hg
    cases e : ldN t n a with
    | false =>
      have em : mNl t n (k + 1) a = (true, a) := by unfold mNl; rw [e, if_neg (by decide)]
      rw [em]
      refine ⟨g, by show RdM g (w ++ sg t a (a - a)); rw [Nat.sub_self]; show RdM g (w ++ []); rw [List.append_nil]; exact hg, fun Q hq => ?_⟩
      unfold ldN at e
      rw [Bool.or_eq_false_iff] at e
      refine wp_ok (cut := [16]) ma_120 rfl 15 _ _ _ _ ?_
      show CalI true (d + 1) 117 [vr 233 0] (mr σ a g) σ.1 (fun x2 s1 => ((¬ x2 = 0 → (vp_in (nI 0) 12 ∧ ((¬ (hI s1 237 0 0) = (nI 8) → CalV true (d + 1) 119 [vr 233 0] s1 σ.1 (fun s3 => Sat true (d + 2) 120 σ.1 Q 16 [some (vr 233 0)] [] s3)) ∧ ((hI s1 237 0 0) = (nI 8) → (((nI 0) = 0 ∨ (nI 0) = 1) ∧ (Q (some (vi (nI 0))) s1 ∧ s1.1 = σ.1)))))) ∧ (x2 = 0 → CalI true (d + 1) 118 [vr 233 0] s1 σ.1 (fun x5 s4 => ((x5 = 0 → (((nI 1) = 0 ∨ (nI 1) = 1) ∧ (Q (some (vi (nI 1))) s4 ∧ s4.1 = σ.1))) ∧ (¬ x5 = 0 → (vp_in (nI 0) 12 ∧ ((¬ (hI s4 237 0 0) = (nI 8) → CalV true (d + 1) 119 [vr 233 0] s4 σ.1 (fun s6 => Sat true (d + 2) 120 σ.1 Q 16 [some (vr 233 0)] [] s6)) ∧ ((hI s4 237 0 0) = (nI 8) → (((nI 0) = 0 ∨ (nI 0) = 1) ∧ (Q (some (vi (nI 0))) s4 ∧ s4.1 = σ.1)))))))))))
      refine cal_i (m_small d hp ha g) rfl ?_
      rw [e.1]
      refine b_f' (cal_i (m_digit d hp ha g) rfl ?_)
      rw [e.2]
      exact b_f ⟨Or.inr rfl, hq, rfl⟩
    | true =>
      have hl := ldN_lt e
      have em : mNl t n (k + 1) a = mNl t n k (a + 1) := by conv => lhs; unfold mNl; rw [e, if_pos rfl]
      obtain ⟨g1, hg1, hkeep⟩ := m_keep d hp ha hg (by omega)
      obtain ⟨g2, hg2, hrest⟩ := ih (a + 1) g1 (w ++ [chr t n a]) (by rw [List.length_append]; show w.length + 1 + k = 8; omega) hl hg1
      rw [em]
      have hb := (mNl_b (t := t) (n := n) k (a + 1) hl).1
      refine ⟨g2, ?_, fun Q hq => ?_⟩
      · rw [sg_cons (by omega)]
        rw [List.append_assoc, show chr t n a = t a from if_pos hl] at hg2
        exact hg2
      · refine wp_ok (cut := [16]) ma_120 rfl 15 _ _ _ _ ?_
        show CalI true (d + 1) 117 [vr 233 0] (mr σ a g) σ.1 (fun x2 s1 => ((¬ x2 = 0 → (vp_in (nI 0) 12 ∧ ((¬ (hI s1 237 0 0) = (nI 8) → CalV true (d + 1) 119 [vr 233 0] s1 σ.1 (fun s3 => Sat true (d + 2) 120 σ.1 Q 16 [some (vr 233 0)] [] s3)) ∧ ((hI s1 237 0 0) = (nI 8) → (((nI 0) = 0 ∨ (nI 0) = 1) ∧ (Q (some (vi (nI 0))) s1 ∧ s1.1 = σ.1)))))) ∧ (x2 = 0 → CalI true (d + 1) 118 [vr 233 0] s1 σ.1 (fun x5 s4 => ((x5 = 0 → (((nI 1) = 0 ∨ (nI 1) = 1) ∧ (Q (some (vi (nI 1))) s4 ∧ s4.1 = σ.1))) ∧ (¬ x5 = 0 → (vp_in (nI 0) 12 ∧ ((¬ (hI s4 237 0 0) = (nI 8) → CalV true (d + 1) 119 [vr 233 0] s4 σ.1 (fun s6 => Sat true (d + 2) 120 σ.1 Q 16 [some (vr 233 0)] [] s6)) ∧ ((hI s4 237 0 0) = (nI 8) → (((nI 0) = 0 ∨ (nI 0) = 1) ∧ (Q (some (vi (nI 0))) s4 ∧ s4.1 = σ.1)))))))))))
        have fin : (vp_in (nI 0) 12 ∧ ((¬ g 0 = nI 8 → CalV true (d + 1) 119 [vr 233 0] (mr σ a g) σ.1 (fun s => Sat true (d + 2) 120 σ.1 Q 16 [some (vr 233 0)] [] s)) ∧ (g 0 = nI 8 → (((nI 0) = 0 ∨ (nI 0) = 1) ∧ (Q (some (vi (nI 0))) (mr σ a g) ∧ (mr σ a g).1 = σ.1))))) := by
          rw [hg.1]
          refine ⟨inb (by omega) (by omega), br_ne (by omega) (by omega) (fun _ => ?_) (fun h => by omega)⟩
          exact cal_v hkeep rfl (hrest Q hq)
        refine cal_i (m_small d hp ha g) rfl ?_
        unfold ldN at e
        cases e1 : (pTB t n 97 122 a).1 with
        | true => exact b_t' fin
        | false =>
          refine b_f' (cal_i (m_digit d hp ha g) rfl ?_)
          rw [e1, Bool.false_or] at e
          rw [e]
          exact b_t fin
def mName (t : Nat → Nat) (n a : Nat) : Bool × Nat := if (pTB t n 97 122 a).1 then mNl t n 8 a else (false, a)
theorem RdM_0 (g : Nat → Int32) : RdM (upd g 0 (nI 0)) [] := ⟨by show (if 0 = 0 then nI 0 else g 0) = nI 0; rw [if_pos rfl], fun k hk => by cases hk⟩
theorem mName_b {a : Nat} (ha : a ≤ n) : a ≤ (mName t n a).2 ∧ (mName t n a).2 ≤ n ∧ (mName t n a).2 ≤ a + 8 := by
  unfold mName
  split
  · exact mNl_b 8 a ha
  · exact ⟨Nat.le_refl _, ha, Nat.le_add_right _ _⟩
theorem m_readName (d : Nat) (hp : PadM σ n t) {a : Nat} (ha : a ≤ n) (g : Nat → Int32) : ∃ g', RdM g' (sg t a ((mName t n a).2 - a)) ∧ EI (d + 2) 120 [vr 233 0] (mr σ a g) (bI (mName t n a).1) (mr σ (mName t n a).2 g') := by
  unfold mName
  obtain ⟨g', hg', hk⟩ := s_mname d hp 8 a (upd g 0 (nI 0)) [] rfl ha (RdM_0 g)
  cases e : (pTB t n 97 122 a).1 with
  | true =>
    refine ⟨g', hg', EI_of mt_120 (Nat.le_of_ble_eq_true rfl) fun Q hq => ?_⟩
    refine wp_ok (cut := [16]) ma_120 rfl 10 _ _ _ _ ?_
    show (vp_in (nI 0) 12 ∧ CalI true (d + 1) 117 [vr 233 0] (setI (mr σ a g) 237 0 0 (nI 0)) ((mr σ a g).1) (fun x2 s1 => ((¬ x2 = 0 → Sat true (d + 2) 120 ((mr σ a g).1) Q 16 [some (vr 233 0)] [] s1) ∧ (x2 = 0 → (((nI 0) = 0 ∨ (nI 0) = 1) ∧ (Q (some (vi (nI 0))) s1 ∧ s1.1 = (mr σ a g).1))))))
    rw [mr_rd]
    refine ⟨inb (by omega) (by omega), cal_i (m_small d hp ha _) rfl ?_⟩
    rw [e]
    exact b_t' (hk Q hq)
  | false =>
    refine ⟨upd g 0 (nI 0), by show RdM _ (sg t a (a - a)); rw [Nat.sub_self]; exact RdM_0 g, EI_of mt_120 (Nat.le_of_ble_eq_true rfl) fun Q hq => ?_⟩
    refine wp_ok (cut := [16]) ma_120 rfl 10 _ _ _ _ ?_
    show (vp_in (nI 0) 12 ∧ CalI true (d + 1) 117 [vr 233 0] (setI (mr σ a g) 237 0 0 (nI 0)) ((mr σ a g).1) (fun x2 s1 => ((¬ x2 = 0 → Sat true (d + 2) 120 ((mr σ a g).1) Q 16 [some (vr 233 0)] [] s1) ∧ (x2 = 0 → (((nI 0) = 0 ∨ (nI 0) = 1) ∧ (Q (some (vi (nI 0))) s1 ∧ s1.1 = (mr σ a g).1))))))
    rw [mr_rd]
    refine ⟨inb (by omega) (by omega), cal_i (m_small d hp ha _) rfl ?_⟩
    rw [e]
    exact b_f' ⟨Or.inl rfl, hq, rfl⟩
end
