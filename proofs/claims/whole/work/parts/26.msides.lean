/-! the model's reading of redirects -/
/-- a row of 12: the length of an anchor and its signs; a row of 14: page, whether there is an anchor, the anchor -/
def RowA (u : Nat → Int32) (o : Nat) (w : List Nat) : Prop := u o = nI w.length ∧ ∀ k, k < 11 → u (o + 1 + k) = nI (w.getD k 0)
def RowP (u : Nat → Int32) (o pg : Nat) (w : List Nat) : Prop := u o = nI pg ∧ u (o + 1) = bI (decide (w ≠ [])) ∧ RowA u (o + 2) w
theorem mr_tu (σ : Hp) (a k : Nat) (g u : Nat → Int32) (x : Int32) : setI (mr (arrI σ 238 0 u) a g) 238 0 k x = mr (arrI σ 238 0 (upd u k x)) a g := by
  unfold mr setI arrI
  refine Prod.ext rfl (Prod.ext ?_ rfl)
  funext f' p' k'
  show (if f' = 238 ∧ p' = 0 ∧ k' = k then x else if f' = 233 ∧ p' = 0 ∧ k' = 6 then nI a else if f' = 237 ∧ p' = 0 then g k' else if f' = 238 ∧ p' = 0 then u k' else σ.2.1 f' p' k') = if f' = 233 ∧ p' = 0 ∧ k' = 6 then nI a else if f' = 237 ∧ p' = 0 then g k' else if f' = 238 ∧ p' = 0 then (if k' = k then x else u k') else σ.2.1 f' p' k'
  by_cases h1 : f' = 238 ∧ p' = 0
  · obtain ⟨rfl, rfl⟩ := h1
    by_cases h2 : k' = k
    · rw [if_pos ⟨rfl, rfl, h2⟩, if_neg (by omega), if_neg (by omega), if_pos ⟨rfl, rfl⟩, if_pos h2]
    · rw [if_neg (fun q => h2 q.2.2), if_neg (by omega), if_neg (by omega), if_pos ⟨rfl, rfl⟩, if_neg (by omega), if_neg (by omega), if_pos ⟨rfl, rfl⟩, if_neg h2]
  · rw [if_neg (fun q => h1 ⟨q.1, q.2.1⟩), if_neg h1, if_neg h1]
section
variable {σ : Hp} {n : Nat} {t : Nat → Nat}
theorem PadM_tu (hp : PadM σ n t) (u : Nat → Int32) : PadM (arrI σ 238 0 u) n t := hp
theorem plTx_len {a : Nat} (ha : a ≤ n) : (plTx t n a).length ≤ 11 := by
  unfold plTx
  split
  · rename_i h
    rw [Bool.and_eq_true] at h
    obtain ⟨h1, h2⟩ := h
    have e1 := pTB_t h1
    have e2 := pT_t h2
    rw [sg_len]
    have em : mPlace t n a = mAnchor t n (a + 1 + 1) := by
      unfold mPlace
      rcases q1 : pTB t n 65 76 a with ⟨b, a1⟩
      rw [q1] at h1 e1
      have h1 : b = true := h1
      subst h1
      have e1 : a1 = a + 1 ∧ a < n := e1
      dsimp only
      rw [e1.1]
      rcases q2 : pT t n 35 (a + 1) with ⟨b, a2⟩
      rw [q2] at h2 e2
      have h2 : b = true := h2
      subst h2
      have e2 : a2 = a + 1 + 1 ∧ a + 1 < n := e2
      dsimp only
      rw [e2.1]
    rw [em]
    have := mAnchor_b (t := t) (show a + 1 + 1 ≤ n by omega)
    omega
  · exact Nat.zero_le _
theorem s_side (d o a : Nat) (g : Nat → Int32) (w : List Nat) (ho : o = 0 ∨ o = 14) (hg : RdM g w) (hw : w.length ≤ 11) : ∀ (m k : Nat) (u : Nat → Int32), k + m = 12 → (∀ j, j < k → u (o + 2 + j) = (if j ≤ w.length then g j else 0)) → ∃ u', (∀ j, j < 12 → u' (o + 2 + j) = (if j ≤ w.length then g j else 0)) ∧ (∀ j, (j < o + 2 ∨ o + 14 ≤ j) → u' j = u j) ∧ ∀ Q : Option AV → Hp → Prop, Q (some (vi (bI true))) (mr (arrI σ 238 0 u') a g) → Sat true d 130 σ.1 Q 46 [some (vr 233 0), some (vi (nI o)), some (vi (nI k))] [] (mr (arrI σ 238 0 u) a g) := by
  intro m
  induction m with
  | zero =>
    intro k u hk hu
    refine ⟨u, fun j hj => hu j (by omega), fun j _ => rfl, fun Q hq => ?_⟩
    refine wp_ok (cut := [46]) ma_130 rfl 24 _ _ _ _ ?_
    show (((nI 12) ≤ (nI k) → (((nI 1) = 0 ∨ (nI 1) = 1) ∧ (Q (some (vi (nI 1))) (mr (arrI σ 238 0 u) a g) ∧ (mr (arrI σ 238 0 u) a g).1 = σ.1))) ∧ (¬ (nI 12) ≤ (nI k) → (vp_in (nI 0) 12 ∧ (((hI (mr (arrI σ 238 0 u) a g) 237 0 0) < (nI k) → (vp_in (((nI o) + (nI 2)) + (nI k)) 28 ∧ Sat true d 130 σ.1 Q 46 [some (vr 233 0), some (vi (nI o)), some (vi ((nI k) + nI 1))] [] (setI (mr (arrI σ 238 0 u) a g) 238 0 ((((nI o) + (nI 2)) + (nI k)).toNatClampNeg) (nI 0)))) ∧ (¬ (hI (mr (arrI σ 238 0 u) a g) 237 0 0) < (nI k) → (vp_in (nI k) 12 ∧ (vp_in (((nI o) + (nI 2)) + (nI k)) 28 ∧ Sat true d 130 σ.1 Q 46 [some (vr 233 0), some (vi (nI o)), some (vi ((nI k) + nI 1))] [] (setI (mr (arrI σ 238 0 u) a g) 238 0 ((((nI o) + (nI 2)) + (nI k)).toNatClampNeg) (hI (mr (arrI σ 238 0 u) a g) 237 0 ((nI k).toNatClampNeg))))))))))
    exact br_le (by omega) (by omega) (fun _ => ⟨Or.inr rfl, hq, rfl⟩) (fun h => by omega)
  | succ m ih =>
    intro k u hk hu
    obtain ⟨u', h1, h2, h3⟩ := ih (k + 1) (upd u (o + 2 + k) (if k ≤ w.length then g k else 0)) (by omega) (fun j hj => by
      show (if o + 2 + j = o + 2 + k then _ else u (o + 2 + j)) = _
      by_cases e : j = k
      · subst e; rw [if_pos rfl]
      · rw [if_neg (by omega)]; exact hu j (by omega))
    refine ⟨u', h1, fun j hj => ?_, fun Q hq => ?_⟩
    · rw [h2 j hj]
      show (if j = o + 2 + k then _ else u j) = u j
      rw [if_neg (by omega)]
    · have h3 := h3 Q hq
      refine wp_ok (cut := [46]) ma_130 rfl 24 _ _ _ _ ?_
      show (((nI 12) ≤ (nI k) → (((nI 1) = 0 ∨ (nI 1) = 1) ∧ (Q (some (vi (nI 1))) (mr (arrI σ 238 0 u) a g) ∧ (mr (arrI σ 238 0 u) a g).1 = σ.1))) ∧ (¬ (nI 12) ≤ (nI k) → (vp_in (nI 0) 12 ∧ (((g 0) < (nI k) → (vp_in (((nI o) + (nI 2)) + (nI k)) 28 ∧ Sat true d 130 σ.1 Q 46 [some (vr 233 0), some (vi (nI o)), some (vi ((nI k) + nI 1))] [] (setI (mr (arrI σ 238 0 u) a g) 238 0 ((((nI o) + (nI 2)) + (nI k)).toNatClampNeg) (nI 0)))) ∧ (¬ (g 0) < (nI k) → (vp_in (nI k) 12 ∧ (vp_in (((nI o) + (nI 2)) + (nI k)) 28 ∧ Sat true d 130 σ.1 Q 46 [some (vr 233 0), some (vi (nI o)), some (vi ((nI k) + nI 1))] [] (setI (mr (arrI σ 238 0 u) a g) 238 0 ((((nI o) + (nI 2)) + (nI k)).toNatClampNeg) (hI (mr (arrI σ 238 0 u) a g) 237 0 ((nI k).toNatClampNeg))))))))))
      refine br_le (by omega) (by omega) (fun h => by omega) (fun _ => ⟨inb (by omega) (by omega), ?_⟩)
      have e1 : nI o + nI 2 + nI k = nI (o + 2 + k) := by rw [addN, addN]
      have e2 : nI k + nI 1 = nI (k + 1) := addN _ _
      have hin : vp_in (nI (o + 2 + k)) 28 := inb (by omega) (by omega)
      rw [hg.1, e1, e2, ix (by omega), mr_tu, mr_tu]
      refine br_lt (by omega) (by omega) (fun h => ⟨hin, ?_⟩) (fun h => ⟨inb (by omega) (by omega), hin, ?_⟩)
      · rw [if_neg (by omega)] at h3
        exact h3
      · rw [if_pos h] at h3
        rw [ix (by omega)]
        exact h3
theorem m_readSide (d : Nat) (hp : PadM σ n t) {a o : Nat} (ha : a ≤ n) (ho : o = 0 ∨ o = 14) (g u : Nat → Int32) : ∃ u' g', ((mPlace t n a).1 = true → RowP u' o (t a - 65) (plTx t n a)) ∧ (∀ j, (j < o ∨ o + 14 ≤ j) → u' j = u j) ∧ EI (d + 5) 130 [vr 233 0, vi (nI o)] (mr (arrI σ 238 0 u) a g) (bI (mPlace t n a).1) (mr (arrI σ 238 0 u') (mPlace t n a).2 g') := by
  obtain ⟨g1, hg1, k1⟩ := m_readPlace d (PadM_tu hp (upd u o (nI (chr t n a) - nI 65))) ha g
  have hl := plTx_len (t := t) ha
  rcases h1 : mPlace t n a with ⟨b, a1⟩
  rw [h1] at k1
  cases b with
  | false =>
    refine ⟨upd u o (nI (chr t n a) - nI 65), g1, fun q => (by cases q), fun j hj => ?_, EI_of mt_130 (Nat.le_of_ble_eq_true rfl) fun Q hq => ?_⟩
    · show (if j = o then _ else u j) = u j
      rw [if_neg (by omega)]
    · refine wp_ok (cut := [46]) ma_130 rfl 26 _ _ _ _ ?_
      show CalI true (d + 4) 115 [vr 233 0] (mr (arrI σ 238 0 u) a g) ((mr (arrI σ 238 0 u) a g).1) (fun x2 s1 => (vp_in (nI o) 28 ∧ CalI true (d + 4) 123 [vr 233 0] (setI s1 238 0 ((nI o).toNatClampNeg) (x2 - (nI 65))) ((mr (arrI σ 238 0 u) a g).1) (fun x4 s3 => ((¬ x4 = 0 → (vp_in (nI 0) 12 ∧ (((hI s3 237 0 0) ≤ 0 → (vp_in ((nI o) + (nI 1)) 28 ∧ Sat true (d + 5) 130 ((mr (arrI σ 238 0 u) a g).1) Q 46 [some (vr 233 0), some (vi (nI o)), some (vi (nI 0))] [] (setI s3 238 0 (((nI o) + (nI 1)).toNatClampNeg) (nI 0)))) ∧ (¬ (hI s3 237 0 0) ≤ 0 → (vp_in ((nI o) + (nI 1)) 28 ∧ Sat true (d + 5) 130 ((mr (arrI σ 238 0 u) a g).1) Q 46 [some (vr 233 0), some (vi (nI o)), some (vi (nI 0))] [] (setI s3 238 0 (((nI o) + (nI 1)).toNatClampNeg) (nI 1))))))) ∧ (x4 = 0 → (((nI 0) = 0 ∨ (nI 0) = 1) ∧ (Q (some (vi (nI 0))) s3 ∧ s3.1 = (mr (arrI σ 238 0 u) a g).1)))))))
      refine cal_i (m_next (d + 4) (PadM_tu hp u) ha g) rfl ⟨inb (by omega) (by omega), ?_⟩
      rw [ix (by omega), mr_tu]
      exact cal_i k1 rfl (b_f' ⟨Or.inl rfl, hq, rfl⟩)
  | true =>
    have hsm : a < n ∧ 65 ≤ t a ∧ t a ≤ 76 := by
      have : (pTB t n 65 76 a).1 = true := by
        cases e : (pTB t n 65 76 a).1 with
        | true => rfl
        | false =>
          unfold mPlace at h1
          rcases q1 : pTB t n 65 76 a with ⟨b, a2⟩
          rw [q1] at e h1
          have e : b = false := e
          subst e
          cases h1
      unfold pTB at this
      split at this
      · rename_i q; exact q
      · cases this
    obtain ⟨u1, w1, w2, w3⟩ := s_side (σ := σ) (d + 5) o a1 g1 (plTx t n a) ho hg1 hl 12 0 (upd (upd u o (nI (chr t n a) - nI 65)) (o + 1) (bI (decide (plTx t n a ≠ [])))) rfl (fun j hj => by cases hj)
    refine ⟨u1, g1, fun _ => ⟨?_, ?_, ?_, fun k hk => ?_⟩, fun j hj => ?_, EI_of mt_130 (Nat.le_of_ble_eq_true rfl) fun Q hq => ?_⟩
    · rw [w2 o (by omega)]
      show (if o = o + 1 then _ else if o = o then _ else u o) = _
      rw [if_neg (by omega), if_pos rfl, show chr t n a = t a from if_pos hsm.1, subN hsm.2.1]
    · rw [w2 (o + 1) (by omega)]
      show (if o + 1 = o + 1 then _ else _) = _
      rw [if_pos rfl]
    · rw [show o + 2 = o + 2 + 0 from rfl, w1 0 (by omega), if_pos (Nat.zero_le _)]
      exact hg1.1
    · rw [show o + 2 + 1 + k = o + 2 + (1 + k) by omega, w1 (1 + k) (by omega)]
      by_cases h : 1 + k ≤ (plTx t n a).length
      · rw [if_pos h, Nat.add_comm 1 k]
        exact hg1.2 k (by omega)
      · rw [if_neg h, List.getD_eq_getElem?_getD, List.getElem?_eq_none (by omega)]
        rfl
    · rw [w2 j (by omega)]
      show (if j = o + 1 then _ else if j = o then _ else u j) = u j
      rw [if_neg (by omega), if_neg (by omega)]
    · refine wp_ok (cut := [46]) ma_130 rfl 26 _ _ _ _ ?_
      show CalI true (d + 4) 115 [vr 233 0] (mr (arrI σ 238 0 u) a g) ((mr (arrI σ 238 0 u) a g).1) (fun x2 s1 => (vp_in (nI o) 28 ∧ CalI true (d + 4) 123 [vr 233 0] (setI s1 238 0 ((nI o).toNatClampNeg) (x2 - (nI 65))) ((mr (arrI σ 238 0 u) a g).1) (fun x4 s3 => ((¬ x4 = 0 → (vp_in (nI 0) 12 ∧ (((hI s3 237 0 0) ≤ 0 → (vp_in ((nI o) + (nI 1)) 28 ∧ Sat true (d + 5) 130 ((mr (arrI σ 238 0 u) a g).1) Q 46 [some (vr 233 0), some (vi (nI o)), some (vi (nI 0))] [] (setI s3 238 0 (((nI o) + (nI 1)).toNatClampNeg) (nI 0)))) ∧ (¬ (hI s3 237 0 0) ≤ 0 → (vp_in ((nI o) + (nI 1)) 28 ∧ Sat true (d + 5) 130 ((mr (arrI σ 238 0 u) a g).1) Q 46 [some (vr 233 0), some (vi (nI o)), some (vi (nI 0))] [] (setI s3 238 0 (((nI o) + (nI 1)).toNatClampNeg) (nI 1))))))) ∧ (x4 = 0 → (((nI 0) = 0 ∨ (nI 0) = 1) ∧ (Q (some (vi (nI 0))) s3 ∧ s3.1 = (mr (arrI σ 238 0 u) a g).1)))))))
      refine cal_i (m_next (d + 4) (PadM_tu hp u) ha g) rfl ⟨inb (by omega) (by omega), ?_⟩
      rw [ix (by omega), mr_tu]
      refine cal_i k1 rfl (b_t' ?_)
      have e1 : nI o + nI 1 = nI (o + 1) := addN _ _
      have hin : vp_in (nI (o + 1)) 28 := inb (by omega) (by omega)
      show (vp_in (nI 0) 12 ∧ ((g1 0 ≤ 0 → (vp_in (nI o + nI 1) 28 ∧ Sat true (d + 5) 130 σ.1 Q 46 _ [] (setI (mr (arrI σ 238 0 _) a1 g1) 238 0 (nI o + nI 1).toNatClampNeg (nI 0)))) ∧ (¬ g1 0 ≤ 0 → (vp_in (nI o + nI 1) 28 ∧ Sat true (d + 5) 130 σ.1 Q 46 _ [] (setI (mr (arrI σ 238 0 _) a1 g1) 238 0 (nI o + nI 1).toNatClampNeg (nI 1))))))
      rw [e1, ix (by omega), mr_tu, mr_tu, hg1.1]
      have h3 := w3 Q hq
      refine ⟨inb (by omega) (by omega), ?_⟩
      refine br_le (b := 0) (by omega) (by omega) (fun h => ⟨hin, ?_⟩) (fun h => ⟨hin, ?_⟩)
      · have e : plTx t n a = [] := List.eq_nil_of_length_eq_zero (by omega)
        rw [decide_eq_false (fun q => q e)] at h3
        exact h3
      · have e : plTx t n a ≠ [] := fun q => by rw [q] at h; cases h
        rw [decide_eq_true e] at h3
        exact h3
def mRed (t : Nat → Nat) (n : Nat) : Bool × Nat :=
  match mPlace t n 0 with
  | (false, a1) => (false, a1)
  | (true, a1) => match pT t n 62 a1 with
    | (false, a2) => (false, a2)
    | (true, a2) => mPlace t n a2
def mRedF (t : Nat → Nat) (n : Nat) : Option Nat := mFin n (mRed t n)
/-- where the second place of a redirect begins -/
def redB (t : Nat → Nat) (n : Nat) : Nat := (mPlace t n 0).2 + 1
theorem m_faultOfRedirect (d : Nat) (hp : PadM σ n t) (a0 : Nat) (g u : Nat → Int32) : ∃ (a' : Nat) (u' g' : Nat → Int32), (mRedF t n = none → RowP u' 0 (t 0 - 65) (plTx t n 0) ∧ RowP u' 14 (t (redB t n) - 65) (plTx t n (redB t n))) ∧ EI (d + 6) 131 [vr 233 0] (mr (arrI σ 238 0 u) a0 g) (fI (mRedF t n)) (mr (arrI σ 238 0 u') a' g') := by
  have hn := hp.1
  have fin : ∀ (b : Bool) (a : Nat) (u g : Nat → Int32) (Q : Option AV → Hp → Prop), a ≤ n → Q (some (vi (fI (mFin n (b, a))))) (mr (arrI σ 238 0 u) a g) → ((bI b = 0 → (Q (some (vi (nI a))) (mr (arrI σ 238 0 u) a g) ∧ (mr (arrI σ 238 0 u) a g).1 = σ.1)) ∧ (¬ bI b = 0 → ((¬ nI a = hI σ 233 0 1 → (Q (some (vi (nI a))) (mr (arrI σ 238 0 u) a g) ∧ (mr (arrI σ 238 0 u) a g).1 = σ.1)) ∧ (nI a = hI σ 233 0 1 → (Q (some (vi (-6))) (mr (arrI σ 238 0 u) a g) ∧ (mr (arrI σ 238 0 u) a g).1 = σ.1))))) := by
    intro b a u g Q ha hq
    rw [hp.2.1]
    unfold mFin at hq
    cases b with
    | false =>
      rw [if_neg (fun q => by cases q.1)] at hq
      exact b_f ⟨hq, rfl⟩
    | true =>
      refine b_t (br_ne (by omega) (by omega) (fun h => ?_) (fun h => ?_))
      · rw [if_neg (fun q => h q.2)] at hq
        exact ⟨hq, rfl⟩
      · rw [if_pos ⟨rfl, h⟩] at hq
        exact ⟨hq, rfl⟩
  obtain ⟨u1, g1, r1, o1, k1⟩ := m_readSide d hp (Nat.zero_le n) (Or.inl rfl) g u
  have l1 := mPlace_b (t := t) (Nat.zero_le n)
  unfold mRedF mRed redB
  rcases h1 : mPlace t n 0 with ⟨b, a1⟩
  rw [h1] at k1 l1 r1
  cases b with
  | false =>
    refine ⟨a1, u1, g1, fun q => ?_, EI_of mt_131 (Nat.le_of_ble_eq_true rfl) fun Q hq => ?_⟩
    · unfold mFin at q; rw [if_neg (fun w => by cases w.1)] at q; cases q
    · refine wp_ok (cut := []) ma_131 rfl 28 _ _ _ _ ?_
      show CalI true (d + 5) 130 [vr 233 0, vi (nI 0)] (setI (mr (arrI σ 238 0 u) a0 g) 233 0 6 (nI 0)) ((mr (arrI σ 238 0 u) a0 g).1) (fun x2 s1 => ((x2 = 0 → (((nI 0) = 0 → (Q (some (vi (hI s1 233 0 6))) s1 ∧ s1.1 = (mr (arrI σ 238 0 u) a0 g).1)) ∧ (¬ (nI 0) = 0 → ((¬ (hI s1 233 0 6) = (hI s1 233 0 1) → (Q (some (vi (hI s1 233 0 6))) s1 ∧ s1.1 = (mr (arrI σ 238 0 u) a0 g).1)) ∧ ((hI s1 233 0 6) = (hI s1 233 0 1) → (Q (some (vi (-6))) s1 ∧ s1.1 = (mr (arrI σ 238 0 u) a0 g).1)))))) ∧ (¬ x2 = 0 → CalI true (d + 5) 116 [vr 233 0, vi (nI 62)] s1 ((mr (arrI σ 238 0 u) a0 g).1) (fun x4 s3 => ((x4 = 0 → (((nI 0) = 0 → (Q (some (vi (hI s3 233 0 6))) s3 ∧ s3.1 = (mr (arrI σ 238 0 u) a0 g).1)) ∧ (¬ (nI 0) = 0 → ((¬ (hI s3 233 0 6) = (hI s3 233 0 1) → (Q (some (vi (hI s3 233 0 6))) s3 ∧ s3.1 = (mr (arrI σ 238 0 u) a0 g).1)) ∧ ((hI s3 233 0 6) = (hI s3 233 0 1) → (Q (some (vi (-6))) s3 ∧ s3.1 = (mr (arrI σ 238 0 u) a0 g).1)))))) ∧ (¬ x4 = 0 → CalI true (d + 5) 130 [vr 233 0, vi (nI 14)] s3 ((mr (arrI σ 238 0 u) a0 g).1) (fun x6 s5 => ((x6 = 0 → (((nI 0) = 0 → (Q (some (vi (hI s5 233 0 6))) s5 ∧ s5.1 = (mr (arrI σ 238 0 u) a0 g).1)) ∧ (¬ (nI 0) = 0 → ((¬ (hI s5 233 0 6) = (hI s5 233 0 1) → (Q (some (vi (hI s5 233 0 6))) s5 ∧ s5.1 = (mr (arrI σ 238 0 u) a0 g).1)) ∧ ((hI s5 233 0 6) = (hI s5 233 0 1) → (Q (some (vi (-6))) s5 ∧ s5.1 = (mr (arrI σ 238 0 u) a0 g).1)))))) ∧ (¬ x6 = 0 → (((nI 1) = 0 → (Q (some (vi (hI s5 233 0 6))) s5 ∧ s5.1 = (mr (arrI σ 238 0 u) a0 g).1)) ∧ (¬ (nI 1) = 0 → ((¬ (hI s5 233 0 6) = (hI s5 233 0 1) → (Q (some (vi (hI s5 233 0 6))) s5 ∧ s5.1 = (mr (arrI σ 238 0 u) a0 g).1)) ∧ ((hI s5 233 0 6) = (hI s5 233 0 1) → (Q (some (vi (-6))) s5 ∧ s5.1 = (mr (arrI σ 238 0 u) a0 g).1))))))))))))))
      rw [mr_at]
      exact cal_i k1 rfl (b_f ⟨fun _ => ⟨hq, rfl⟩, fun h => absurd rfl h⟩)
  | true =>
    rcases h2 : pT t n 62 a1 with ⟨b, a2⟩
    dsimp only
    rw [h2]
    cases b with
    | false =>
      have e2 := pTB_ff h2
      subst e2
      refine ⟨a2, u1, g1, fun q => ?_, EI_of mt_131 (Nat.le_of_ble_eq_true rfl) fun Q hq => ?_⟩
      · dsimp only at q; unfold mFin at q; rw [if_neg (fun w => by cases w.1)] at q; cases q
      · refine wp_ok (cut := []) ma_131 rfl 28 _ _ _ _ ?_
        show CalI true (d + 5) 130 [vr 233 0, vi (nI 0)] (setI (mr (arrI σ 238 0 u) a0 g) 233 0 6 (nI 0)) ((mr (arrI σ 238 0 u) a0 g).1) (fun x2 s1 => ((x2 = 0 → (((nI 0) = 0 → (Q (some (vi (hI s1 233 0 6))) s1 ∧ s1.1 = (mr (arrI σ 238 0 u) a0 g).1)) ∧ (¬ (nI 0) = 0 → ((¬ (hI s1 233 0 6) = (hI s1 233 0 1) → (Q (some (vi (hI s1 233 0 6))) s1 ∧ s1.1 = (mr (arrI σ 238 0 u) a0 g).1)) ∧ ((hI s1 233 0 6) = (hI s1 233 0 1) → (Q (some (vi (-6))) s1 ∧ s1.1 = (mr (arrI σ 238 0 u) a0 g).1)))))) ∧ (¬ x2 = 0 → CalI true (d + 5) 116 [vr 233 0, vi (nI 62)] s1 ((mr (arrI σ 238 0 u) a0 g).1) (fun x4 s3 => ((x4 = 0 → (((nI 0) = 0 → (Q (some (vi (hI s3 233 0 6))) s3 ∧ s3.1 = (mr (arrI σ 238 0 u) a0 g).1)) ∧ (¬ (nI 0) = 0 → ((¬ (hI s3 233 0 6) = (hI s3 233 0 1) → (Q (some (vi (hI s3 233 0 6))) s3 ∧ s3.1 = (mr (arrI σ 238 0 u) a0 g).1)) ∧ ((hI s3 233 0 6) = (hI s3 233 0 1) → (Q (some (vi (-6))) s3 ∧ s3.1 = (mr (arrI σ 238 0 u) a0 g).1)))))) ∧ (¬ x4 = 0 → CalI true (d + 5) 130 [vr 233 0, vi (nI 14)] s3 ((mr (arrI σ 238 0 u) a0 g).1) (fun x6 s5 => ((x6 = 0 → (((nI 0) = 0 → (Q (some (vi (hI s5 233 0 6))) s5 ∧ s5.1 = (mr (arrI σ 238 0 u) a0 g).1)) ∧ (¬ (nI 0) = 0 → ((¬ (hI s5 233 0 6) = (hI s5 233 0 1) → (Q (some (vi (hI s5 233 0 6))) s5 ∧ s5.1 = (mr (arrI σ 238 0 u) a0 g).1)) ∧ ((hI s5 233 0 6) = (hI s5 233 0 1) → (Q (some (vi (-6))) s5 ∧ s5.1 = (mr (arrI σ 238 0 u) a0 g).1)))))) ∧ (¬ x6 = 0 → (((nI 1) = 0 → (Q (some (vi (hI s5 233 0 6))) s5 ∧ s5.1 = (mr (arrI σ 238 0 u) a0 g).1)) ∧ (¬ (nI 1) = 0 → ((¬ (hI s5 233 0 6) = (hI s5 233 0 1) → (Q (some (vi (hI s5 233 0 6))) s5 ∧ s5.1 = (mr (arrI σ 238 0 u) a0 g).1)) ∧ ((hI s5 233 0 6) = (hI s5 233 0 1) → (Q (some (vi (-6))) s5 ∧ s5.1 = (mr (arrI σ 238 0 u) a0 g).1))))))))))))))
        rw [mr_at]
        refine cal_i k1 rfl (b_t (cal_i (m_isNext (d + 4) (PadM_tu hp u1) l1.2 (by omega) (by omega) g1) rfl ?_))
        rw [h2]
        exact b_f ⟨fun _ => ⟨hq, rfl⟩, fun h => absurd rfl h⟩
    | true =>
      obtain ⟨e2, hlt⟩ := pTB_tt h2
      subst e2
      obtain ⟨u2, g2, r2, o2, k2⟩ := m_readSide d hp (show a1 + 1 ≤ n by omega) (Or.inr rfl) g1 u1
      have l2 := mPlace_b (t := t) (show a1 + 1 ≤ n by omega)
      dsimp only
      rcases h3 : mPlace t n (a1 + 1) with ⟨b, a3⟩
      rw [h3] at k2 l2 r2
      refine ⟨a3, u2, g2, fun q => ?_, EI_of mt_131 (Nat.le_of_ble_eq_true rfl) fun Q hq => ?_⟩
      · have hb : b = true := by
          unfold mFin at q
          by_cases w : (b, a3).1 = true ∧ (b, a3).2 = n
          · exact w.1
          · rw [if_neg w] at q; cases q
        refine ⟨?_, r2 hb⟩
        obtain ⟨y1, y2, y3, y4⟩ := r1 rfl
        exact ⟨by rw [o2 0 (by omega)]; exact y1, by rw [o2 (0 + 1) (by omega)]; exact y2, by rw [o2 (0 + 2) (by omega)]; exact y3, fun k hk => by rw [o2 _ (by omega)]; exact y4 k hk⟩
      · refine wp_ok (cut := []) ma_131 rfl 28 _ _ _ _ ?_
        show CalI true (d + 5) 130 [vr 233 0, vi (nI 0)] (setI (mr (arrI σ 238 0 u) a0 g) 233 0 6 (nI 0)) ((mr (arrI σ 238 0 u) a0 g).1) (fun x2 s1 => ((x2 = 0 → (((nI 0) = 0 → (Q (some (vi (hI s1 233 0 6))) s1 ∧ s1.1 = (mr (arrI σ 238 0 u) a0 g).1)) ∧ (¬ (nI 0) = 0 → ((¬ (hI s1 233 0 6) = (hI s1 233 0 1) → (Q (some (vi (hI s1 233 0 6))) s1 ∧ s1.1 = (mr (arrI σ 238 0 u) a0 g).1)) ∧ ((hI s1 233 0 6) = (hI s1 233 0 1) → (Q (some (vi (-6))) s1 ∧ s1.1 = (mr (arrI σ 238 0 u) a0 g).1)))))) ∧ (¬ x2 = 0 → CalI true (d + 5) 116 [vr 233 0, vi (nI 62)] s1 ((mr (arrI σ 238 0 u) a0 g).1) (fun x4 s3 => ((x4 = 0 → (((nI 0) = 0 → (Q (some (vi (hI s3 233 0 6))) s3 ∧ s3.1 = (mr (arrI σ 238 0 u) a0 g).1)) ∧ (¬ (nI 0) = 0 → ((¬ (hI s3 233 0 6) = (hI s3 233 0 1) → (Q (some (vi (hI s3 233 0 6))) s3 ∧ s3.1 = (mr (arrI σ 238 0 u) a0 g).1)) ∧ ((hI s3 233 0 6) = (hI s3 233 0 1) → (Q (some (vi (-6))) s3 ∧ s3.1 = (mr (arrI σ 238 0 u) a0 g).1)))))) ∧ (¬ x4 = 0 → CalI true (d + 5) 130 [vr 233 0, vi (nI 14)] s3 ((mr (arrI σ 238 0 u) a0 g).1) (fun x6 s5 => ((x6 = 0 → (((nI 0) = 0 → (Q (some (vi (hI s5 233 0 6))) s5 ∧ s5.1 = (mr (arrI σ 238 0 u) a0 g).1)) ∧ (¬ (nI 0) = 0 → ((¬ (hI s5 233 0 6) = (hI s5 233 0 1) → (Q (some (vi (hI s5 233 0 6))) s5 ∧ s5.1 = (mr (arrI σ 238 0 u) a0 g).1)) ∧ ((hI s5 233 0 6) = (hI s5 233 0 1) → (Q (some (vi (-6))) s5 ∧ s5.1 = (mr (arrI σ 238 0 u) a0 g).1)))))) ∧ (¬ x6 = 0 → (((nI 1) = 0 → (Q (some (vi (hI s5 233 0 6))) s5 ∧ s5.1 = (mr (arrI σ 238 0 u) a0 g).1)) ∧ (¬ (nI 1) = 0 → ((¬ (hI s5 233 0 6) = (hI s5 233 0 1) → (Q (some (vi (hI s5 233 0 6))) s5 ∧ s5.1 = (mr (arrI σ 238 0 u) a0 g).1)) ∧ ((hI s5 233 0 6) = (hI s5 233 0 1) → (Q (some (vi (-6))) s5 ∧ s5.1 = (mr (arrI σ 238 0 u) a0 g).1))))))))))))))
        rw [mr_at]
        refine cal_i k1 rfl (b_t (cal_i (m_isNext (d + 4) (PadM_tu hp u1) l1.2 (by omega) (by omega) g1) rfl ?_))
        rw [h2]
        refine b_t (cal_i k2 rfl ?_)
        cases b with
        | false => exact b_f ⟨fun _ => ⟨hq, rfl⟩, fun h => absurd rfl h⟩
        | true => exact b_t ⟨fun h => absurd h (by decide), fun _ => (fin true a3 u2 g2 Q l2.2 hq).2 (by decide)⟩
end
