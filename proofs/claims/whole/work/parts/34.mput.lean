/-! the model's put; wipe and fault on both sides -/
theorem m_put (d : Nat) {σ : Hp} {n : Nat} {t : Nat → Nat} (hp : PadM σ n t) {N : Nat} (hN : N < 2 ^ 64) : PI (d + 1) 113 [vr 233 0, vl (lN N)] σ (putV n N) (fun h => putP PadM n N t h ∧ Fr (fun f _ => f = 233 ∨ f = 234) σ h ∧ ∀ k, k ≠ 1 → hI h 233 0 k = hI σ 233 0 k) := by
  obtain ⟨hn, hl, hc⟩ := hp
  have loop2 : pkM N ≠ 0 → n + pkM N ≤ 160 → ∀ Q : Option AV → Hp → Prop, (∀ h, PadM h (n + pkM N) (putS t n N) ∧ Fr (fun f _ => f = 233 ∨ f = 234) σ h ∧ (∀ k, k ≠ 1 → hI h 233 0 k = hI σ 233 0 k) → Q (some (vi (nI (n + pkM N)))) h) → ∀ (j i : Nat) (h : Hp), i + j = pkM N → (∀ k, k < n + i → hI h 234 0 k = nI (putS t n N k)) → Fr (fun f _ => f = 233 ∨ f = 234) σ h → (∀ k, hI h 233 0 k = hI σ 233 0 k) → Sat true (d + 1) 113 σ.1 Q 87 [some (vr 233 0), some (vl (lN N)), none, some (vi (nI (pkM N))), none, none, some (vi (nI i))] [] h := by
    intro hm0 hm Q hq j
    obtain ⟨f1, f2, f3⟩ := pkM_f hN hm0
    induction j with
    | zero =>
      intro i h hi h2 h3 h4
      have hi : i = pkM N := hi
      subst hi
      refine wp_ok (cut := [87]) ma_113 rfl 24 _ _ _ _ ?_
      show (((nI (pkM N)) ≤ (nI (pkM N)) → (Q (some (vi ((hI h 233 0 1) + (nI (pkM N))))) (setI h 233 0 1 ((hI h 233 0 1) + (nI (pkM N)))) ∧ h.1 = σ.1)) ∧ (¬ (nI (pkM N)) ≤ (nI (pkM N)) → (vp_in ((hI h 233 0 1) + (nI (pkM N))) 160 ∧ Sat true (d + 1) 113 σ.1 Q 87 [some (vr 233 0), some (vl (lN N)), none, some (vi (nI (pkM N))), none, none, some (vi ((nI (pkM N)) + nI 1))] [] (setI h 234 0 (((hI h 233 0 1) + (nI (pkM N))).toNatClampNeg) ((((lN N) >>> (((nI 8) * (((nI (pkM N)) - (nI 1)) - (nI (pkM N)))).toInt64 &&& 63)) &&& (lN 255)).toInt32)))))
      refine ⟨fun _ => ?_, fun g => absurd (Int32.le_refl _) g⟩
      rw [h4 1, hl, addN]
      refine ⟨hq _ ⟨⟨hm, hI_s _ _ _ _ _, fun k hk => ⟨h2 k hk, ?_⟩⟩, h3.sI (Or.inl rfl) _ _, fun k hk => by rw [hI_k _ _ _ _ hk]; exact h4 k⟩, h3.1⟩
      unfold putS
      split
      · rename_i q; exact (hc k q).2
      · have := f3 (pkM N - 1 - (k - n)) (by omega)
        omega
    | succ j ih =>
      intro i h hi h2 h3 h4
      have hb := byt_lt N j
      have kq := ih (i + 1) (setI h 234 0 (n + i) (nI (byt N j))) (by omega) (fun k hk => ?_) (h3.sI (Or.inr rfl) _ _) h4
      · refine wp_ok (cut := [87]) ma_113 rfl 24 _ _ _ _ ?_
        show (((nI (pkM N)) ≤ (nI i) → (Q (some (vi ((hI h 233 0 1) + (nI (pkM N))))) (setI h 233 0 1 ((hI h 233 0 1) + (nI (pkM N)))) ∧ h.1 = σ.1)) ∧ (¬ (nI (pkM N)) ≤ (nI i) → (vp_in ((hI h 233 0 1) + (nI i)) 160 ∧ Sat true (d + 1) 113 σ.1 Q 87 [some (vr 233 0), some (vl (lN N)), none, some (vi (nI (pkM N))), none, none, some (vi ((nI i) + nI 1))] [] (setI h 234 0 (((hI h 233 0 1) + (nI i)).toNatClampNeg) ((((lN N) >>> (((nI 8) * (((nI (pkM N)) - (nI 1)) - (nI i))).toInt64 &&& 63)) &&& (lN 255)).toInt32)))))
        refine br_le (by omega) (by omega) (fun g => by omega) (fun _ => ?_)
        rw [h4 1, hl, addN, addN, subN (by omega), subN (by omega), mulN, sshr (by omega) f2, by_m, ix (by omega), show pkM N - 1 - i = j by omega]
        refine ⟨inb (by omega) (by omega), ?_⟩
        rw [show N / 2 ^ (8 * j) % 256 = byt N j from rfl, l2i_n (by omega)]
        exact kq
      · by_cases e : k = n + i
        · subst e
          rw [hI_s]
          unfold putS
          rw [if_neg (by omega), show pkM N - 1 - (n + i - n) = j by omega]
        · rw [hI_k _ _ _ _ e]
          exact h2 k (by omega)
  have hm8 : pkM N ≤ 8 := by
    by_cases e : pkM N = 0
    · omega
    · exact (pkM_f hN e).1
  have lz : ∀ x, x < 2 ^ 64 → (lN x = lN 0 ↔ x = 0) := by
    intro x hx
    constructor
    · intro h
      have := congrArg (fun x : Int64 => x.toBitVec.toNat) h
      rw [wb_tn (by omega), wb_tn (by omega)] at this
      exact this
    · intro h; rw [h]
  -- behind the first loop
  have tail : ∀ (Q : Option AV → Hp → Prop) (i : Nat), i ≤ 8 → (∀ h, putP PadM n N t h ∧ Fr (fun f _ => f = 233 ∨ f = 234) σ h ∧ (∀ k, k ≠ 1 → hI h 233 0 k = hI σ 233 0 k) → Q (some (vi (putV n N))) h) → (pkM N = if i = 0 ∨ N / 2 ^ (8 * i) ≠ 0 then 0 else i) → Sat true (d + 1) 113 σ.1 Q 55 [some (vr 233 0), some (vl (lN N)), none, some (vi (nI i)), some (vl (lN (N / 2 ^ (8 * i)))), none, none] [] σ := by
    intro Q i hi hq hm
    have keep : ¬ putK n N → Q (some (vi (putV n N))) σ := fun q => hq σ ⟨Or.inr ⟨q, hn, hl, hc⟩, Fr.rfl' _ _, fun _ _ => rfl⟩
    have hd : N / 2 ^ (8 * i) ≤ N := Nat.div_le_self _ _
    refine wp_ok (cut := [87]) ma_113 rfl 14 _ _ _ _ ?_
    show (((nI i) = 0 → (Q (some (vi (-2))) σ ∧ σ.1 = σ.1)) ∧ (¬ (nI i) = 0 → (((lg_cmp (lN (N / 2 ^ (8 * i))) (lN 0)) = 0 → ((((hI σ 233 0 1) + (nI i)) ≤ (nI 160) → Sat true (d + 1) 113 σ.1 Q 87 [some (vr 233 0), some (vl (lN N)), none, some (vi (nI i)), some (vl (lN (N / 2 ^ (8 * i)))), none, some (vi (nI 0))] [] σ) ∧ (¬ ((hI σ 233 0 1) + (nI i)) ≤ (nI 160) → (Q (some (vi (-4))) σ ∧ σ.1 = σ.1)))) ∧ (¬ (lg_cmp (lN (N / 2 ^ (8 * i))) (lN 0)) = 0 → (Q (some (vi (-2))) σ ∧ σ.1 = σ.1)))))
    refine br_eq (b := 0) (by omega) (by omega) (fun h0 => ?_) (fun h0 => ?_)
    · rw [if_pos (Or.inl h0)] at hm
      have := keep (fun q => q.1 hm)
      unfold putV at this
      rw [if_pos hm] at this
      exact ⟨this, rfl⟩
    · rw [lg_cmp_eq, lz _ (by omega)]
      refine ⟨fun h1 => ?_, fun h1 => ?_⟩
      · rw [if_neg (fun q => by rcases q with q | q; exact h0 q; exact q h1)] at hm
        rw [hl, addN]
        refine br_le (by omega) (by omega) (fun h2 => ?_) (fun h2 => ?_)
        · subst hm
          refine Sat_no 4 (loop2 h0 h2 Q (fun h ph => ?_) (pkM N) 0 σ (by omega) (fun k hk => ?_) (Fr.rfl' _ _) (fun _ => rfl))
          · have := hq h ⟨Or.inl ⟨⟨h0, h2⟩, ph.1⟩, ph.2⟩
            unfold putV at this
            rw [if_neg h0, if_neg (by omega)] at this
            exact this
          · unfold putS
            rw [if_pos (by omega)]
            exact (hc k (by omega)).1
        · have := keep (fun q => by have := q.2; omega)
          unfold putV at this
          rw [if_neg (by omega), if_pos (by omega)] at this
          exact ⟨this, rfl⟩
      · rw [if_pos (Or.inr h1)] at hm
        have := keep (fun q => q.1 hm)
        unfold putV at this
        rw [if_pos hm] at this
        exact ⟨this, rfl⟩
  have loop1 : ∀ Q : Option AV → Hp → Prop, (∀ h, putP PadM n N t h ∧ Fr (fun f _ => f = 233 ∨ f = 234) σ h ∧ (∀ k, k ≠ 1 → hI h 233 0 k = hI σ 233 0 k) → Q (some (vi (putV n N))) h) → ∀ (k i : Nat), i + k = 8 → pkM N = pkN N k i → Sat true (d + 1) 113 σ.1 Q 5 [some (vr 233 0), some (vl (lN N)), none, some (vi (nI i)), some (vl (lN (N / 2 ^ (8 * i)))), none, none] [] σ := by
    intro Q hq k
    induction k with
    | zero =>
      intro i hi hm
      have hi : i = 8 := hi
      subst hi
      have kq := tail Q 8 (by omega) hq (by rw [hm, if_neg (fun q => by rcases q with q | q; cases q; exact q (Nat.div_eq_of_lt hN))]; rfl)
      refine wp_ok (cut := [5, 55]) ma_113 rfl 23 _ _ _ _ ?_
      show (((nI 8) ≤ (nI 8) → Sat true (d + 1) 113 σ.1 Q 55 [some (vr 233 0), some (vl (lN N)), none, some (vi (nI 8)), some (vl (lN (N / 2 ^ (8 * 8)))), none, none] [] σ) ∧ (¬ (nI 8) ≤ (nI 8) → (((lg_cmp ((lN (N / 2 ^ (8 * 8))) &&& (lN 255)) (lN 0)) = 0 → Sat true (d + 1) 113 σ.1 Q 55 [some (vr 233 0), some (vl (lN N)), none, some (vi (nI 8)), some (vl (lN (N / 2 ^ (8 * 8)))), none, none] [] σ) ∧ (¬ (lg_cmp ((lN (N / 2 ^ (8 * 8))) &&& (lN 255)) (lN 0)) = 0 → CalI true d 108 [vi (((lN (N / 2 ^ (8 * 8))) &&& (lN 255)).toInt32), vi (nI 33), vi (nI 126)] σ σ.1 (fun x2 s1 => ((¬ x2 = 0 → Sat true (d + 1) 113 σ.1 Q 5 [some (vr 233 0), some (vl (lN N)), none, some (vi ((nI 8) + nI 1)), some (vl (((lN (N / 2 ^ (8 * 8))).toUInt64 >>> ((nI 8).toInt64.toUInt64 &&& Int64.toUInt64 63)).toInt64)), none, none] [] s1) ∧ (x2 = 0 → (Q (some (vi (-2))) s1 ∧ s1.1 = σ.1))))))))
      exact ⟨fun _ => kq, fun h => absurd (by decide) h⟩
    | succ k ih =>
      intro i hi hm
      unfold pkN at hm
      have hd : N / 2 ^ (8 * i) ≤ N := Nat.div_le_self _ _
      have hb := byt_lt N i
      have hb2 : byt N i = N / 2 ^ (8 * i) % 256 := rfl
      refine wp_ok (cut := [5, 55]) ma_113 rfl 23 _ _ _ _ ?_
      show (((nI 8) ≤ (nI i) → Sat true (d + 1) 113 σ.1 Q 55 [some (vr 233 0), some (vl (lN N)), none, some (vi (nI i)), some (vl (lN (N / 2 ^ (8 * i)))), none, none] [] σ) ∧ (¬ (nI 8) ≤ (nI i) → (((lg_cmp ((lN (N / 2 ^ (8 * i))) &&& (lN 255)) (lN 0)) = 0 → Sat true (d + 1) 113 σ.1 Q 55 [some (vr 233 0), some (vl (lN N)), none, some (vi (nI i)), some (vl (lN (N / 2 ^ (8 * i)))), none, none] [] σ) ∧ (¬ (lg_cmp ((lN (N / 2 ^ (8 * i))) &&& (lN 255)) (lN 0)) = 0 → CalI true d 108 [vi (((lN (N / 2 ^ (8 * i))) &&& (lN 255)).toInt32), vi (nI 33), vi (nI 126)] σ σ.1 (fun x2 s1 => ((¬ x2 = 0 → Sat true (d + 1) 113 σ.1 Q 5 [some (vr 233 0), some (vl (lN N)), none, some (vi ((nI i) + nI 1)), some (vl (((lN (N / 2 ^ (8 * i))).toUInt64 >>> ((nI 8).toInt64.toUInt64 &&& Int64.toUInt64 63)).toInt64)), none, none] [] s1) ∧ (x2 = 0 → (Q (some (vi (-2))) s1 ∧ s1.1 = σ.1))))))))
      rw [by_m, ← hb2, lg_cmp_eq, lz _ (by omega), addN, wb_shr (by omega) (by omega), Nat.div_div_eq_div_mul, ← Nat.pow_add, show 8 * i + 8 = 8 * (i + 1) by omega, l2i_n (by omega)]
      refine br_le (by omega) (by omega) (fun h => by omega) (fun _ => ⟨fun h0 => ?_, fun h0 => ?_⟩)
      · refine tail Q i (by omega) hq ?_
        by_cases e : N / 2 ^ (8 * i) = 0
        · rw [if_pos e] at hm
          by_cases e2 : i = 0
          · rw [if_pos (Or.inl e2), hm, e2]
          · rw [if_neg (fun q => by rcases q with q | q; exact e2 q; exact q e), hm]
        · rw [if_neg e, if_neg (by omega)] at hm
          rw [if_pos (Or.inr e), hm]
      · rw [if_neg (by omega)] at hm
        refine cal_i (m_in d σ (by omega) (by omega) (by omega)) rfl ?_
        refine brN (fun h => ?_) (fun h => ?_)
        · have h := of_decide_eq_true h
          rw [if_pos h] at hm
          exact ih (i + 1) (by omega) hm
        · have h := of_decide_eq_false h
          rw [if_neg h] at hm
          have := hq σ ⟨Or.inr ⟨fun q => q.1 hm, hn, hl, hc⟩, Fr.rfl' _ _, fun _ _ => rfl⟩
          unfold putV at this
          rw [if_pos hm] at this
          exact ⟨this, rfl⟩
  refine PI_of mt_113 (Nat.le_of_ble_eq_true rfl) fun Q hq => ?_
  refine wp_ok (cut := [5]) ma_113 rfl 4 _ _ _ _ ?_
  show Sat true (d + 1) 113 σ.1 Q 5 [some (vr 233 0), some (vl (lN N)), none, some (vi (nI 0)), some (vl (lN N)), none, none] [] σ
  have := loop1 Q hq 8 0 rfl rfl
  rw [show N / 2 ^ (8 * 0) = N by rw [Nat.mul_zero, Nat.pow_zero, Nat.div_one]] at this
  exact this
theorem e_wipe (d : Nat) {σ : Hp} {n : Nat} {t : Nat → Nat} (hp : PdC σ n t) : EI d 70 [vr 1 0] σ (nI n) (setI σ 1 0 1 (nI 0)) := by
  refine EI_of mt_70 (Nat.le_of_ble_eq_true rfl) fun Q hq => ?_
  refine wp_ok (cut := []) ma_70 rfl 8 _ _ _ _ ?_
  show (Q (some (vi (hI σ 1 0 1))) (setI σ 1 0 1 (nI 0)) ∧ σ.1 = σ.1)
  rw [hp.2]
  exact ⟨hq, rfl⟩
theorem m_wipe (d : Nat) {σ : Hp} {n : Nat} {t : Nat → Nat} (hp : PadM σ n t) : EI d 114 [vr 233 0] σ (nI n) (setI σ 233 0 1 (nI 0)) := by
  refine EI_of mt_114 (Nat.le_of_ble_eq_true rfl) fun Q hq => ?_
  refine wp_ok (cut := []) ma_114 rfl 8 _ _ _ _ ?_
  show (Q (some (vi (hI σ 233 0 1))) (setI σ 233 0 1 (nI 0)) ∧ σ.1 = σ.1)
  rw [hp.2.1]
  exact ⟨hq, rfl⟩
def faultV (t : Nat → Nat) (n : Nat) (x : Int32) : Int32 := if x = 0 then fI (pageF t n) else if x = nI 1 then fI (redF t n) else (-2)
theorem rh_fr (σ : Hp) (n a : Nat) : Fr (fun f _ => f = 5) σ (rh σ n a) := (((Fr.rfl' (fun f _ => f = 5) σ).sR rfl _ _).sI rfl _ _).sI rfl _ _
theorem mr_fr (σ : Hp) (a : Nat) (g : Nat → Int32) : Fr (fun f _ => f = 233 ∨ f = 237) σ (mr σ a g) := ((Fr.rfl' _ σ).aI (Or.inr rfl) _).sI (Or.inl rfl) _ _
theorem e_fault (d : Nat) {σ : Hp} {n : Nat} {t : Nat → Nat} (hp : PdC σ n t) (x : Int32) : PI (d + 6) 71 [vr 1 0, vi x] σ (faultV t n x) (fun h => Fr (fun f _ => f = 5) σ h) := by
  refine PI_of mt_71 (Nat.le_of_ble_eq_true rfl) fun Q hq => ?_
  obtain ⟨h1, h2⟩ := hp
  unfold faultV at hq
  refine wp_ok (cut := []) ma_71 rfl 16 _ _ _ _ ?_
  show ((x = 0 → ((¬ x = 0 → CalI true (d + 5) 30 [vr 5 0, vr 2 0, vi (hI σ 1 0 1)] σ σ.1 (fun x2 s1 => (Q (some (vi x2)) s1 ∧ s1.1 = σ.1))) ∧ (x = 0 → CalI true (d + 5) 29 [vr 5 0, vr 2 0, vi (hI σ 1 0 1)] σ σ.1 (fun x4 s3 => (Q (some (vi x4)) s3 ∧ s3.1 = σ.1))))) ∧ (¬ x = 0 → ((x = (nI 1) → ((¬ x = 0 → CalI true (d + 5) 30 [vr 5 0, vr 2 0, vi (hI σ 1 0 1)] σ σ.1 (fun x6 s5 => (Q (some (vi x6)) s5 ∧ s5.1 = σ.1))) ∧ (x = 0 → CalI true (d + 5) 29 [vr 5 0, vr 2 0, vi (hI σ 1 0 1)] σ σ.1 (fun x8 s7 => (Q (some (vi x8)) s7 ∧ s7.1 = σ.1))))) ∧ (¬ x = (nI 1) → (Q (some (vi (-2))) σ ∧ σ.1 = σ.1)))))
  rw [h2]
  have c1 : PI (d + 5) 29 [vr 5 0, vr 2 0, vi (nI n)] σ (fI (pageF t n)) (fun h => RdH σ n h) := e_pageFault d h1
  have c2 : PI (d + 5) 30 [vr 5 0, vr 2 0, vi (nI n)] σ (fI (redF t n)) (fun h => RdH σ n h) := e_redirectFault (d + 1) h1
  refine ⟨fun h0 => ⟨fun g => absurd h0 g, fun _ => ?_⟩, fun h0 => ⟨fun g0 => ⟨fun _ => ?_, fun g => absurd g h0⟩, fun g0 => ?_⟩⟩
  · rw [if_pos h0] at hq
    refine cp_i c1 rfl fun h ph e => ⟨hq h ?_, e⟩
    obtain ⟨a, rfl⟩ := ph
    exact rh_fr σ n a
  · rw [if_neg h0, if_pos g0] at hq
    refine cp_i c2 rfl fun h ph e => ⟨hq h ?_, e⟩
    obtain ⟨a, rfl⟩ := ph
    exact rh_fr σ n a
  · rw [if_neg h0, if_neg g0] at hq
    exact ⟨hq σ (Fr.rfl' _ _), rfl⟩
theorem wb_of32' (x : Int32) : ∃ n, n < 2 ^ 32 ∧ x = nI n := ⟨x.toBitVec.toNat, x.toBitVec.isLt, Int32.toBitVec_inj.mp (by show _ = BitVec.ofNat 32 _; simp)⟩
theorem mr_self (σ : Hp) : ∃ a, σ = mr σ a (hI σ 237 0) := by
  obtain ⟨a, _, ha⟩ := wb_of32' (hI σ 233 0 6)
  refine ⟨a, ?_⟩
  unfold mr
  rw [arrI_self, ← ha, setI_self]
theorem m_page (d : Nat) {σ : Hp} {n : Nat} {t : Nat → Nat} (hp : PadM σ n t) : ∃ h, EI (d + 8) 129 [vr 233 0] σ (fI (pageF t n)) h ∧ Fr (fun f _ => f = 233 ∨ f = 237) σ h ∧ ∀ k, k ≠ 6 → hI h 233 0 k = hI σ 233 0 k := by
  obtain ⟨a, ha⟩ := mr_self σ
  obtain ⟨a', g', k⟩ := m_faultOfPage d hp a (hI σ 237 0)
  rw [← ha, ← pageF_eq] at k
  exact ⟨_, k, mr_fr σ a' g', fun j hj => hI_k _ _ _ _ hj⟩
theorem m_turn (d : Nat) {σ : Hp} {n : Nat} {t : Nat → Nat} (hp : PadM σ n t) : ∃ h, EI (d + 6) 131 [vr 233 0] σ (fI (redF t n)) h ∧ (redF t n = none → RowP (hI h 238 0) 0 (t 0 - 65) (plTx t n 0) ∧ RowP (hI h 238 0) 14 (t (redB t n) - 65) (plTx t n (redB t n))) ∧ Fr (fun f _ => f = 233 ∨ f = 237 ∨ f = 238) σ h ∧ ∀ k, k ≠ 6 → hI h 233 0 k = hI σ 233 0 k := by
  obtain ⟨a, ha⟩ := mr_self σ
  obtain ⟨a', u', g', r, k⟩ := m_faultOfRedirect d hp a (hI σ 237 0) (hI σ 238 0)
  rw [arrI_self, ← ha, ← redF_eq] at k
  rw [← redF_eq] at r
  have e : hI (mr (arrI σ 238 0 u') a' g') 238 0 = u' := by
    unfold mr
    rw [hI_f _ _ _ (Or.inl (by decide)), hI_af _ _ (Or.inl (by decide)), hI_a]
  refine ⟨_, k, fun q => by rw [e]; exact r q, ?_, fun j hj => hI_k _ _ _ _ hj⟩
  exact ((((Fr.rfl' (fun f _ => f = 233 ∨ f = 237 ∨ f = 238) σ).aI (Or.inr (Or.inr rfl)) u').aI (Or.inr (Or.inl rfl)) g').sI (Or.inl rfl) 6 (nI a'))
theorem m_fault (d : Nat) {σ : Hp} {n : Nat} {t : Nat → Nat} (hp : PadM σ n t) (x : Int32) : PI (d + 9) 132 [vr 233 0, vi x] σ (faultV t n x) (fun h => Fr (fun f _ => f = 233 ∨ f = 237 ∨ f = 238) σ h ∧ ∀ k, k ≠ 6 → hI h 233 0 k = hI σ 233 0 k) := by
  refine PI_of mt_132 (Nat.le_of_ble_eq_true rfl) fun Q hq => ?_
  unfold faultV at hq
  obtain ⟨h1, k1, f1, g1⟩ := m_page d hp
  obtain ⟨h2, k2, _, f2, g2⟩ := m_turn (d + 2) hp
  refine wp_ok (cut := []) ma_132 rfl 9 _ _ _ _ ?_
  show ((¬ x = 0 → ((¬ x = (nI 1) → (Q (some (vi (-2))) σ ∧ σ.1 = σ.1)) ∧ (x = (nI 1) → CalI true (d + 8) 131 [vr 233 0] σ σ.1 (fun x2 s1 => (Q (some (vi x2)) s1 ∧ s1.1 = σ.1))))) ∧ (x = 0 → CalI true (d + 8) 129 [vr 233 0] σ σ.1 (fun x4 s3 => (Q (some (vi x4)) s3 ∧ s3.1 = σ.1))))
  refine ⟨fun h0 => ⟨fun g0 => ?_, fun g0 => ?_⟩, fun h0 => ?_⟩
  · rw [if_neg h0, if_neg g0] at hq
    exact ⟨hq σ ⟨Fr.rfl' _ _, fun _ _ => rfl⟩, rfl⟩
  · rw [if_neg h0, if_pos g0] at hq
    exact cal_i k2 rfl ⟨hq h2 ⟨f2, g2⟩, f2.1⟩
  · rw [if_pos h0] at hq
    exact cal_i k1 rfl ⟨hq h1 ⟨f1.mo fun f p s => s.elim Or.inl fun q => Or.inr (Or.inl q), g1⟩, f1.1⟩
