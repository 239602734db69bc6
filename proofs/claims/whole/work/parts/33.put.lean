/-! put, wipe, fault: the class and the model -/
def byt (N i : Nat) : Nat := N / 2 ^ (8 * i) % 256
def pkN (N : Nat) : Nat → Nat → Nat
  | 0, _ => 8
  | k + 1, i => if N / 2 ^ (8 * i) = 0 then i else if 33 ≤ byt N i ∧ byt N i ≤ 126 then pkN N k (i + 1) else 0
def pkM (N : Nat) : Nat := pkN N 8 0
theorem pkN_f {N : Nat} (hN : N < 2 ^ 64) : ∀ (k i : Nat), i + k = 8 → pkN N k i ≠ 0 → i ≤ pkN N k i ∧ pkN N k i ≤ 8 ∧ N / 2 ^ (8 * pkN N k i) = 0 ∧ ∀ j, i ≤ j → j < pkN N k i → 33 ≤ byt N j ∧ byt N j ≤ 126 := by
  intro k
  induction k with
  | zero =>
    intro i hi h
    have hi : i = 8 := hi
    subst hi
    exact ⟨Nat.le_refl _, Nat.le_refl _, Nat.div_eq_of_lt hN, fun j h1 h2 => by have h2 : j < 8 := h2; omega⟩
  | succ k ih =>
    intro i hi h
    unfold pkN at h ⊢
    by_cases h0 : N / 2 ^ (8 * i) = 0
    · rw [if_pos h0] at h ⊢
      exact ⟨Nat.le_refl _, by omega, h0, fun j h1 h2 => by omega⟩
    · rw [if_neg h0] at h ⊢
      by_cases h1 : 33 ≤ byt N i ∧ byt N i ≤ 126
      · rw [if_pos h1] at h ⊢
        obtain ⟨a1, a2, a3, a4⟩ := ih (i + 1) (by omega) h
        refine ⟨by omega, a2, a3, fun j j1 j2 => ?_⟩
        by_cases e : j = i
        · rw [e]; exact h1
        · exact a4 j (by omega) j2
      · rw [if_neg h1] at h
        exact absurd rfl h
theorem pkM_f {N : Nat} (hN : N < 2 ^ 64) (h : pkM N ≠ 0) : pkM N ≤ 8 ∧ N < 2 ^ 63 ∧ ∀ j, j < pkM N → 33 ≤ byt N j ∧ byt N j ≤ 126 := by
  obtain ⟨a1, a2, a3, a4⟩ := pkN_f hN 8 0 rfl h
  refine ⟨a2, ?_, fun j hj => a4 j (Nat.zero_le _) hj⟩
  have hm : pkM N = pkN N 8 0 := rfl
  obtain ⟨m, em⟩ : ∃ m, pkN N 8 0 = m + 1 := ⟨pkN N 8 0 - 1, by omega⟩
  rw [em] at a3 a2 a4
  have b := a4 m (Nat.zero_le _) (by omega)
  unfold byt at b
  have e : 2 ^ (8 * (m + 1)) = 2 ^ (8 * m) * 256 := by rw [show 8 * (m + 1) = 8 * m + 8 by omega, Nat.pow_add]
  rw [e, ← Nat.div_div_eq_div_mul] at a3
  have c : N / 2 ^ (8 * m) < 127 := by omega
  have c2 : N < 127 * 2 ^ (8 * m) := (Nat.div_lt_iff_lt_mul (Nat.two_pow_pos _)).mp c
  have c3 : 2 ^ (8 * m) ≤ 2 ^ (8 * 7) := Nat.pow_le_pow_right (by decide) (by omega)
  omega
theorem byt_lt (N i : Nat) : byt N i < 256 := Nat.mod_lt _ (by decide)
theorem by_u {N i : Nat} (hN : N < 2 ^ 64) (hi : i < 8) : ((lN N).toUInt64 >>> ((nI (8 * i)).toInt64.toUInt64 &&& Int64.toUInt64 63)).toInt64 = lN (N / 2 ^ (8 * i)) := wb_shr hN (by omega)
theorem by_m (n : Nat) : lN n &&& lN 255 = lN (n % 256) := fb_maskL n 8
theorem sshr {a k : Nat} (hk : k < 64) (h : a < 2 ^ 63) : lN a >>> ((nI k).toInt64 &&& 63) = lN (a / 2 ^ k) := by
  rw [wb_c k hk]
  have hd : a / 2 ^ k ≤ a := Nat.div_le_self _ _
  apply Int64.toInt_inj.mp
  have hD : ((lN k).toBitVec.smod 64).toNat = k := by
    rw [wb_tb, wb_sm k hk, BitVec.toNat_ofNat, Nat.mod_eq_of_lt (by omega)]
  have e : (lN a >>> lN k).toInt = (lN a).toInt >>> k := by
    have := BitVec.toInt_sshiftRight (x := (lN a).toBitVec) (n := ((lN k).toBitVec.smod 64).toNat)
    rw [hD] at this
    show ((lN a).toBitVec.sshiftRight' ((lN k).toBitVec.smod 64)).toInt = _
    rw [BitVec.sshiftRight_eq', hD]
    exact this
  rw [e, Int.shiftRight_eq_div_pow, pk_lT h, pk_lT (by omega)]
  rfl
theorem e_chars (d : Nat) (σ : Hp) {N : Nat} (hN : N < 2 ^ 64) : EI d 98 [vl (lN N)] σ (nI (pkM N)) σ := by
  have loop : ∀ (k i : Nat), i + k = 8 → ∀ Q : Option AV → Hp → Prop, Q (some (vi (nI (pkN N k i)))) σ → Sat true d 98 σ.1 Q 2 [some (vl (lN N)), none, some (vi (nI i)), none, none, none, none] [] σ := by
    intro k
    induction k with
    | zero =>
      intro i hi Q hq
      have hi : i = 8 := hi
      subst hi
      refine wp_ok (cut := [2]) ma_98 rfl 27 _ _ _ _ ?_
      show (((nI 8) ≤ (nI 8) → (Q (some (vi (nI 8))) σ ∧ σ.1 = σ.1)) ∧ (¬ (nI 8) ≤ (nI 8) → ((¬ (lg_cmp (((lN N).toUInt64 >>> (((nI 8) * (nI 8)).toInt64.toUInt64 &&& Int64.toUInt64 63)).toInt64) (lN 0)) = 0 → (((lg_cmp ((((lN N).toUInt64 >>> (((nI 8) * (nI 8)).toInt64.toUInt64 &&& Int64.toUInt64 63)).toInt64) &&& (lN 255)) (lN 33)) < 0 → (Q (some (vi (nI 0))) σ ∧ σ.1 = σ.1)) ∧ (¬ (lg_cmp ((((lN N).toUInt64 >>> (((nI 8) * (nI 8)).toInt64.toUInt64 &&& Int64.toUInt64 63)).toInt64) &&& (lN 255)) (lN 33)) < 0 → (((lg_cmp ((((lN N).toUInt64 >>> (((nI 8) * (nI 8)).toInt64.toUInt64 &&& Int64.toUInt64 63)).toInt64) &&& (lN 255)) (lN 126)) ≤ 0 → Sat true d 98 σ.1 Q 2 [some (vl (lN N)), none, some (vi ((nI 8) + nI 1)), some (vl (((lN N).toUInt64 >>> (((nI 8) * (nI 8)).toInt64.toUInt64 &&& Int64.toUInt64 63)).toInt64)), none, some (vl ((((lN N).toUInt64 >>> (((nI 8) * (nI 8)).toInt64.toUInt64 &&& Int64.toUInt64 63)).toInt64) &&& (lN 255))), none] [] σ) ∧ (¬ (lg_cmp ((((lN N).toUInt64 >>> (((nI 8) * (nI 8)).toInt64.toUInt64 &&& Int64.toUInt64 63)).toInt64) &&& (lN 255)) (lN 126)) ≤ 0 → (Q (some (vi (nI 0))) σ ∧ σ.1 = σ.1)))))) ∧ ((lg_cmp (((lN N).toUInt64 >>> (((nI 8) * (nI 8)).toInt64.toUInt64 &&& Int64.toUInt64 63)).toInt64) (lN 0)) = 0 → (Q (some (vi (nI 8))) σ ∧ σ.1 = σ.1)))))
      exact ⟨fun _ => ⟨hq, rfl⟩, fun h => absurd (by decide) h⟩
    | succ k ih =>
      intro i hi Q hq
      unfold pkN at hq
      have hd : N / 2 ^ (8 * i) ≤ N := Nat.div_le_self _ _
      have hb := byt_lt N i
      refine wp_ok (cut := [2]) ma_98 rfl 27 _ _ _ _ ?_
      show (((nI 8) ≤ (nI i) → (Q (some (vi (nI 8))) σ ∧ σ.1 = σ.1)) ∧ (¬ (nI 8) ≤ (nI i) → ((¬ (lg_cmp (((lN N).toUInt64 >>> (((nI 8) * (nI i)).toInt64.toUInt64 &&& Int64.toUInt64 63)).toInt64) (lN 0)) = 0 → (((lg_cmp ((((lN N).toUInt64 >>> (((nI 8) * (nI i)).toInt64.toUInt64 &&& Int64.toUInt64 63)).toInt64) &&& (lN 255)) (lN 33)) < 0 → (Q (some (vi (nI 0))) σ ∧ σ.1 = σ.1)) ∧ (¬ (lg_cmp ((((lN N).toUInt64 >>> (((nI 8) * (nI i)).toInt64.toUInt64 &&& Int64.toUInt64 63)).toInt64) &&& (lN 255)) (lN 33)) < 0 → (((lg_cmp ((((lN N).toUInt64 >>> (((nI 8) * (nI i)).toInt64.toUInt64 &&& Int64.toUInt64 63)).toInt64) &&& (lN 255)) (lN 126)) ≤ 0 → Sat true d 98 σ.1 Q 2 [some (vl (lN N)), none, some (vi ((nI i) + nI 1)), some (vl (((lN N).toUInt64 >>> (((nI 8) * (nI i)).toInt64.toUInt64 &&& Int64.toUInt64 63)).toInt64)), none, some (vl ((((lN N).toUInt64 >>> (((nI 8) * (nI i)).toInt64.toUInt64 &&& Int64.toUInt64 63)).toInt64) &&& (lN 255))), none] [] σ) ∧ (¬ (lg_cmp ((((lN N).toUInt64 >>> (((nI 8) * (nI i)).toInt64.toUInt64 &&& Int64.toUInt64 63)).toInt64) &&& (lN 255)) (lN 126)) ≤ 0 → (Q (some (vi (nI 0))) σ ∧ σ.1 = σ.1)))))) ∧ ((lg_cmp (((lN N).toUInt64 >>> (((nI 8) * (nI i)).toInt64.toUInt64 &&& Int64.toUInt64 63)).toInt64) (lN 0)) = 0 → (Q (some (vi (nI i))) σ ∧ σ.1 = σ.1)))))
      rw [mulN, by_u hN (by omega), by_m, addN]
      refine br_le (by omega) (by omega) (fun h => by omega) (fun _ => ?_)
      show (¬ lg_cmp (lN (N / 2 ^ (8 * i))) (lN 0) = 0 → (lg_cmp (lN (byt N i)) (lN 33) < 0 → _) ∧ (¬ lg_cmp (lN (byt N i)) (lN 33) < 0 → (lg_cmp (lN (byt N i)) (lN 126) ≤ 0 → _) ∧ (¬ lg_cmp (lN (byt N i)) (lN 126) ≤ 0 → _))) ∧ (lg_cmp (lN (N / 2 ^ (8 * i))) (lN 0) = 0 → _)
      rw [lg_cmp_eq, lg_cmp_lt, lg_cmp_le]
      have e0 : lN (N / 2 ^ (8 * i)) = lN 0 ↔ N / 2 ^ (8 * i) = 0 := by
        constructor
        · intro h
          have := congrArg (fun x : Int64 => x.toBitVec.toNat) h
          rw [wb_tn (by omega), wb_tn (by omega)] at this
          exact this
        · intro h; rw [h]
      have e1 : lN (byt N i) < lN 33 ↔ byt N i < 33 := by
        rw [Int64.lt_iff_toInt_lt, pk_lT (by omega), pk_lT (by omega)]; omega
      have e2 : lN (byt N i) ≤ lN 126 ↔ byt N i ≤ 126 := by
        rw [Int64.le_iff_toInt_le, pk_lT (by omega), pk_lT (by omega)]; omega
      rw [e0, e1, e2]
      refine ⟨fun h => ?_, fun h => ?_⟩
      · rw [if_neg h] at hq
        refine ⟨fun g => ?_, fun g => ⟨fun g2 => ?_, fun g2 => ?_⟩⟩
        · rw [if_neg (by omega)] at hq
          exact ⟨hq, rfl⟩
        · rw [if_pos (by omega)] at hq
          exact Sat_no 3 (Sat_no 5 (ih (i + 1) (by omega) Q hq))
        · rw [if_neg (by omega)] at hq
          exact ⟨hq, rfl⟩
      · rw [if_pos h] at hq
        exact ⟨hq, rfl⟩
  refine EI_of mt_98 (Nat.le_of_ble_eq_true rfl) fun Q hq => ?_
  refine wp_ok (cut := [2]) ma_98 rfl 2 _ _ _ _ ?_
  show Sat true d 98 σ.1 Q 2 [some (vl (lN N)), none, some (vi (nI 0)), none, none, none, none] [] σ
  exact loop 8 0 rfl Q hq
def putS (t : Nat → Nat) (n N : Nat) (k : Nat) : Nat := if k < n then t k else byt N (pkM N - 1 - (k - n))
def putK (n N : Nat) : Prop := pkM N ≠ 0 ∧ n + pkM N ≤ 160
def putV (n N : Nat) : Int32 := if pkM N = 0 then (-2) else if 160 < n + pkM N then (-4) else nI (n + pkM N)
/-- the pad of the class, of the model -/
def PdC (σ : Hp) (n : Nat) (t : Nat → Nat) : Prop := PadC σ n t ∧ hI σ 1 0 1 = nI n
def putP (P : Hp → Nat → (Nat → Nat) → Prop) (n N : Nat) (t : Nat → Nat) (h : Hp) : Prop := (putK n N ∧ P h (n + pkM N) (putS t n N)) ∨ (¬ putK n N ∧ P h n t)
theorem e_put (d : Nat) {σ : Hp} {n : Nat} {t : Nat → Nat} (hp : PdC σ n t) {N : Nat} (hN : N < 2 ^ 64) : PI (d + 1) 69 [vr 1 0, vl (lN N)] σ (putV n N) (fun h => putP PdC n N t h ∧ Fr (fun f _ => f = 1 ∨ f = 2) σ h ∧ ∀ k, k ≠ 1 → hI h 1 0 k = hI σ 1 0 k) := by
  obtain ⟨⟨hn, hc⟩, hl⟩ := hp
  have loop : pkM N ≠ 0 → n + pkM N ≤ 160 → ∀ Q : Option AV → Hp → Prop, (∀ h, PdC h (n + pkM N) (putS t n N) ∧ Fr (fun f _ => f = 1 ∨ f = 2) σ h ∧ (∀ k, k ≠ 1 → hI h 1 0 k = hI σ 1 0 k) → Q (some (vi (nI (n + pkM N)))) h) → ∀ (j i : Nat) (h : Hp), i + j = pkM N → hI h 1 0 1 = nI (n + i) → (∀ k, k < n + i → hI h 2 0 k = nI (putS t n N k)) → Fr (fun f _ => f = 1 ∨ f = 2) σ h → (∀ k, k ≠ 1 → hI h 1 0 k = hI σ 1 0 k) → Sat true (d + 1) 69 σ.1 Q 32 [some (vr 1 0), some (vl (lN N)), none, none, some (vi (nI j - nI 1))] [] h := by
    intro hm0 hm Q hq j
    obtain ⟨f1, f2, f3⟩ := pkM_f hN hm0
    induction j with
    | zero =>
      intro i h hi h1 h2 h3 h4
      have hi : i = pkM N := hi
      subst hi
      refine wp_ok (cut := [32]) ma_69 rfl 24 _ _ _ _ ?_
      show (((nI 0 - nI 1) < 0 → (Q (some (vi (hI h 1 0 1))) h ∧ h.1 = σ.1)) ∧ (¬ (nI 0 - nI 1) < 0 → (vp_in (hI h 1 0 1) 160 ∧ Sat true (d + 1) 69 σ.1 Q 32 [some (vr 1 0), some (vl (lN N)), none, none, some (vi ((nI 0 - nI 1) + (-1)))] [] (setI (setI h 2 0 ((hI h 1 0 1).toNatClampNeg) (vp_nar .char (((((((lN N).toUInt64 >>> (((nI 8) * (nI 0 - nI 1)).toInt64.toUInt64 &&& Int64.toUInt64 63)).toInt64) &&& (lN 255)).toInt32).toUInt32 % 65536).toInt32))) 1 0 1 ((hI h 1 0 1) + (nI 1))))))
      refine ⟨fun _ => ?_, fun g => absurd (by decide) g⟩
      rw [h1]
      refine ⟨hq h ⟨⟨⟨hm, fun k hk => ⟨h2 k hk, ?_⟩⟩, h1⟩, h3, h4⟩, h3.1⟩
      unfold putS
      split
      · rename_i q; exact (hc k q).2
      · have := f3 (pkM N - 1 - (k - n)) (by omega)
        omega
    | succ j ih =>
      intro i h hi h1 h2 h3 h4
      have ej : nI (j + 1) - nI 1 = nI j := by rw [subN (by omega)]; rfl
      have hb := byt_lt N j
      have kq := ih (i + 1) (setI (setI h 2 0 (n + i) (nI (byt N j))) 1 0 1 (nI (n + i + 1))) (by omega) (hI_s _ _ _ _ _) (fun k hk => ?_) ((h3.sI (Or.inr rfl) _ _).sI (Or.inl rfl) _ _) (fun k hk => ?_)
      · refine wp_ok (cut := [32]) ma_69 rfl 24 _ _ _ _ ?_
        show (((nI (j + 1) - nI 1) < 0 → (Q (some (vi (hI h 1 0 1))) h ∧ h.1 = σ.1)) ∧ (¬ (nI (j + 1) - nI 1) < 0 → (vp_in (hI h 1 0 1) 160 ∧ Sat true (d + 1) 69 σ.1 Q 32 [some (vr 1 0), some (vl (lN N)), none, none, some (vi ((nI (j + 1) - nI 1) + (-1)))] [] (setI (setI h 2 0 ((hI h 1 0 1).toNatClampNeg) (vp_nar .char (((((((lN N).toUInt64 >>> (((nI 8) * (nI (j + 1) - nI 1)).toInt64.toUInt64 &&& Int64.toUInt64 63)).toInt64) &&& (lN 255)).toInt32).toUInt32 % 65536).toInt32))) 1 0 1 ((hI h 1 0 1) + (nI 1))))))
        rw [ej]
        refine ⟨fun g => absurd ((ltN (a := j) (b := 0) (by omega) (by omega)).mp g) (by omega), fun _ => ?_⟩
        rw [h1, mulN, by_u hN (by omega), by_m, addN, addm1, ix (by omega)]
        show _ ∧ Sat true (d + 1) 69 σ.1 Q 32 _ [] (setI (setI h 2 0 (n + i) (vp_nar .char ((lN (byt N j)).toInt32.toUInt32 % 65536).toInt32)) 1 0 1 (nI (n + i + 1)))
        rw [l2i_n (by omega), i2c_n (by omega), nar_c (by omega)]
        exact ⟨inb (by omega) (by omega), kq⟩
      · show hI (setI h 2 0 (n + i) _) 2 0 k = _
        by_cases e : k = n + i
        · subst e
          rw [hI_s]
          unfold putS
          rw [if_neg (by omega), show pkM N - 1 - (n + i - n) = j by omega]
        · rw [hI_k _ _ _ _ e]
          exact h2 k (by omega)
      · rw [hI_k _ _ _ _ hk]
        exact h4 k hk
  refine PI_of mt_69 (Nat.le_of_ble_eq_true rfl) fun Q hq => ?_
  refine wp_ok (cut := [32]) ma_69 rfl 15 _ _ _ _ ?_
  show CalI true d 98 [vl (lN N)] σ σ.1 (fun x2 s1 => ((¬ x2 = 0 → ((((hI s1 1 0 1) + x2) ≤ (nI 160) → Sat true (d + 1) 69 σ.1 Q 32 [some (vr 1 0), some (vl (lN N)), none, some (vi x2), some (vi (x2 - (nI 1)))] [] s1) ∧ (¬ ((hI s1 1 0 1) + x2) ≤ (nI 160) → (Q (some (vi (-4))) s1 ∧ s1.1 = σ.1)))) ∧ (x2 = 0 → (Q (some (vi (-2))) s1 ∧ s1.1 = σ.1))))
  refine cal_i (e_chars d σ hN) rfl ?_
  have hm8 : pkM N ≤ 8 := by
    by_cases e : pkM N = 0
    · omega
    · exact (pkM_f hN e).1
  have keep : ¬ putK n N → Q (some (vi (putV n N))) σ := fun q => hq σ ⟨Or.inr ⟨q, ⟨hn, hc⟩, hl⟩, Fr.rfl' _ _, fun _ _ => rfl⟩
  refine br_ne (b := 0) (by omega) (by omega) (fun h0 => ?_) (fun h0 => ?_)
  · rw [hl, addN]
    refine br_le (by omega) (by omega) (fun h1 => ?_) (fun h1 => ?_)
    · refine Sat_no 3 (loop h0 h1 Q (fun h ph => ?_) (pkM N) 0 σ (by omega) hl (fun k hk => ?_) (Fr.rfl' _ _) (fun _ _ => rfl))
      · have := hq h ⟨Or.inl ⟨⟨h0, h1⟩, ph.1⟩, ph.2⟩
        unfold putV at this
        rw [if_neg h0, if_neg (by omega)] at this
        exact this
      · unfold putS
        rw [if_pos (by omega)]
        exact (hc k (by omega)).1
    · have := keep (fun q => by have := q.2; omega)
      unfold putV at this
      rw [if_neg h0, if_pos h1] at this
      exact ⟨this, rfl⟩
  · have := keep (fun q => q.1 h0)
    unfold putV at this
    rw [if_pos h0] at this
    exact ⟨this, rfl⟩
