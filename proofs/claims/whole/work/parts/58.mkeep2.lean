/-! the model: keepHeading, from its entry -/
theorem arrI_upd (σ : Hp) (f p k : Nat) (x : Int32) : setI σ f p k x = arrI σ f p (upd (hI σ f p) k x) := by
  rw [← arrI_setI, arrI_self]
section
variable {σ : Hp} {r p a b add v : Nat} {hs : List Hd} {w : List Nat} {Q : Option AV → Hp → Prop} {d : Nat}
set_option maxRecDepth 6000 in
theorem s_kh81 {hl L : Nat} {h : Hp} (hB : h.1 = σ.1) (c : Nat → Nat) (hc : ∀ k, L < k → c k = 0) (kq : ∀ u : Nat → Int32, (∀ k, k < 64 → u k = nI (c k)) → Sat true (d + 2) 155 σ.1 Q 105 (khL r p a b add hl v (some (vi (nI L))) (some (vi (nI 1))) none) [] (arrI h 260 0 u)) : ∀ (m k : Nat) (u : Nat → Int32), k + m = 64 → L < k → (∀ j, j < k → u j = nI (c j)) → Sat true (d + 2) 155 σ.1 Q 81 (khL r p a b add hl v (some (vi (nI L))) (some (vi (nI k))) none) [] (arrI h 260 0 u) := by
  intro m
  induction m with
  | zero =>
    intro k u hk hL hu
    refine wp_ok (cut := [81, 105]) ma_155 rfl 10 _ _ _ _ ?_
    show (((nI 64) ≤ (nI k) → Sat true (d + 2) 155 σ.1 Q 105 [some (vr 233 0), some (vi (nI r)), some (vi (nI p)), some (vi (nI a)), some (vi (nI b)), some (vi (nI add)), some (vi (nI hl)), some (vi (nI (100 * r + hl))), some (vi (nI v)), some (vi (nI L)), some (vi (nI 1)), none] [] (arrI h 260 0 u)) ∧ (¬ (nI 64) ≤ (nI k) → (vp_in (nI k) 64 ∧ Sat true (d + 2) 155 σ.1 Q 81 [some (vr 233 0), some (vi (nI r)), some (vi (nI p)), some (vi (nI a)), some (vi (nI b)), some (vi (nI add)), some (vi (nI hl)), some (vi (nI (100 * r + hl))), some (vi (nI v)), some (vi (nI L)), some (vi ((nI k) + nI 1)), none] [] (setI (arrI h 260 0 u) 260 0 ((nI k).toNatClampNeg) (nI 0)))))
    exact br_le (by omega) (by omega) (fun _ => kq u fun j hj => hu j (by omega)) (fun g => by omega)
  | succ m ih =>
    intro k u hk hL hu
    refine wp_ok (cut := [81, 105]) ma_155 rfl 10 _ _ _ _ ?_
    show (((nI 64) ≤ (nI k) → Sat true (d + 2) 155 σ.1 Q 105 [some (vr 233 0), some (vi (nI r)), some (vi (nI p)), some (vi (nI a)), some (vi (nI b)), some (vi (nI add)), some (vi (nI hl)), some (vi (nI (100 * r + hl))), some (vi (nI v)), some (vi (nI L)), some (vi (nI 1)), none] [] (arrI h 260 0 u)) ∧ (¬ (nI 64) ≤ (nI k) → (vp_in (nI k) 64 ∧ Sat true (d + 2) 155 σ.1 Q 81 [some (vr 233 0), some (vi (nI r)), some (vi (nI p)), some (vi (nI a)), some (vi (nI b)), some (vi (nI add)), some (vi (nI hl)), some (vi (nI (100 * r + hl))), some (vi (nI v)), some (vi (nI L)), some (vi ((nI k) + nI 1)), none] [] (setI (arrI h 260 0 u) 260 0 ((nI k).toNatClampNeg) (nI 0)))))
    rw [ix (by omega), addN, arrI_setI]
    refine br_le (by omega) (by omega) (fun g => by omega) (fun _ => ⟨inb (by omega) (by omega), ih (k + 1) _ (by omega) (by omega) (fun j hj => ?_)⟩)
    unfold upd
    by_cases e : j = k
    · rw [if_pos e, e, hc k hL]
    · rw [if_neg e]
      exact hu j (by omega)
set_option maxRecDepth 6000 in
theorem s_kh105 {hl L : Nat} {h : Hp} (hr : r < 12) (hhl : hl < 100) (hL : L < 64) (c : Nat → Nat) (h260 : ∀ k, k < 64 → hI h 260 0 k = nI (c k)) (kq : ∀ u : Nat → Int32, (∀ k, k < 10 → u (10 * (100 * r + hl) + k) = nI (if k + 1 ≤ L then c (k + 1) else 0)) → (∀ j, (j < 10 * (100 * r + hl) ∨ 10 * (100 * r + hl) + 10 ≤ j) → u j = hI h 244 0 j) → Sat true (d + 2) 155 σ.1 Q 151 (khL r p a b add hl v (some (vi (nI L))) none none) [] (arrI h 244 0 u)) : ∀ (m k : Nat) (u : Nat → Int32), k + m = 10 → (∀ j, j < k → u (10 * (100 * r + hl) + j) = nI (if j + 1 ≤ L then c (j + 1) else 0)) → (∀ j, (j < 10 * (100 * r + hl) ∨ 10 * (100 * r + hl) + 10 ≤ j) → u j = hI h 244 0 j) → Sat true (d + 2) 155 σ.1 Q 105 (khL r p a b add hl v (some (vi (nI L))) (some (vi (nI (k + 1)))) none) [] (arrI h 244 0 u) := by
  intro m
  induction m with
  | zero =>
    intro k u hk hu ho
    refine wp_ok (cut := [105, 151]) ma_155 rfl 23 _ _ _ _ ?_
    show (((nI 10) < (nI (k + 1)) → Sat true (d + 2) 155 σ.1 Q 151 [some (vr 233 0), some (vi (nI r)), some (vi (nI p)), some (vi (nI a)), some (vi (nI b)), some (vi (nI add)), some (vi (nI hl)), some (vi (nI (100 * r + hl))), some (vi (nI v)), some (vi (nI L)), some (vi (nI (k + 1))), none] [] (arrI h 244 0 u)) ∧ (¬ (nI 10) < (nI (k + 1)) → (((nI L) < (nI (k + 1)) → (vp_in ((((nI 10) * (nI (100 * r + hl))) + (nI (k + 1))) - (nI 1)) 12000 ∧ Sat true (d + 2) 155 σ.1 Q 105 [some (vr 233 0), some (vi (nI r)), some (vi (nI p)), some (vi (nI a)), some (vi (nI b)), some (vi (nI add)), some (vi (nI hl)), some (vi (nI (100 * r + hl))), some (vi (nI v)), some (vi (nI L)), some (vi ((nI (k + 1)) + nI 1)), none] [] (setI (arrI h 244 0 u) 244 0 (((((nI 10) * (nI (100 * r + hl))) + (nI (k + 1))) - (nI 1)).toNatClampNeg) (nI 0)))) ∧ (¬ (nI L) < (nI (k + 1)) → (vp_in (nI (k + 1)) 64 ∧ (vp_in ((((nI 10) * (nI (100 * r + hl))) + (nI (k + 1))) - (nI 1)) 12000 ∧ Sat true (d + 2) 155 σ.1 Q 105 [some (vr 233 0), some (vi (nI r)), some (vi (nI p)), some (vi (nI a)), some (vi (nI b)), some (vi (nI add)), some (vi (nI hl)), some (vi (nI (100 * r + hl))), some (vi (nI v)), some (vi (nI L)), some (vi ((nI (k + 1)) + nI 1)), none] [] (setI (arrI h 244 0 u) 244 0 (((((nI 10) * (nI (100 * r + hl))) + (nI (k + 1))) - (nI 1)).toNatClampNeg) (hI (arrI h 244 0 u) 260 0 ((nI (k + 1)).toNatClampNeg)))))))))
    exact br_lt (by omega) (by omega) (fun _ => Sat_no 10 (kq u (fun j hj => hu j (by omega)) ho)) (fun g => by omega)
  | succ m ih =>
    intro k u hk hu ho
    refine wp_ok (cut := [105, 151]) ma_155 rfl 23 _ _ _ _ ?_
    show (((nI 10) < (nI (k + 1)) → Sat true (d + 2) 155 σ.1 Q 151 [some (vr 233 0), some (vi (nI r)), some (vi (nI p)), some (vi (nI a)), some (vi (nI b)), some (vi (nI add)), some (vi (nI hl)), some (vi (nI (100 * r + hl))), some (vi (nI v)), some (vi (nI L)), some (vi (nI (k + 1))), none] [] (arrI h 244 0 u)) ∧ (¬ (nI 10) < (nI (k + 1)) → (((nI L) < (nI (k + 1)) → (vp_in ((((nI 10) * (nI (100 * r + hl))) + (nI (k + 1))) - (nI 1)) 12000 ∧ Sat true (d + 2) 155 σ.1 Q 105 [some (vr 233 0), some (vi (nI r)), some (vi (nI p)), some (vi (nI a)), some (vi (nI b)), some (vi (nI add)), some (vi (nI hl)), some (vi (nI (100 * r + hl))), some (vi (nI v)), some (vi (nI L)), some (vi ((nI (k + 1)) + nI 1)), none] [] (setI (arrI h 244 0 u) 244 0 (((((nI 10) * (nI (100 * r + hl))) + (nI (k + 1))) - (nI 1)).toNatClampNeg) (nI 0)))) ∧ (¬ (nI L) < (nI (k + 1)) → (vp_in (nI (k + 1)) 64 ∧ (vp_in ((((nI 10) * (nI (100 * r + hl))) + (nI (k + 1))) - (nI 1)) 12000 ∧ Sat true (d + 2) 155 σ.1 Q 105 [some (vr 233 0), some (vi (nI r)), some (vi (nI p)), some (vi (nI a)), some (vi (nI b)), some (vi (nI add)), some (vi (nI hl)), some (vi (nI (100 * r + hl))), some (vi (nI v)), some (vi (nI L)), some (vi ((nI (k + 1)) + nI 1)), none] [] (setI (arrI h 244 0 u) 244 0 (((((nI 10) * (nI (100 * r + hl))) + (nI (k + 1))) - (nI 1)).toNatClampNeg) (hI (arrI h 244 0 u) 260 0 ((nI (k + 1)).toNatClampNeg)))))))))
    have e1 : hI (arrI h 244 0 u) 260 0 (k + 1) = nI (c (k + 1)) := by rw [hI_af _ _ (by decide)]; exact h260 _ (by omega)
    have st : ∀ x : Int32, x = nI (if k + 1 ≤ L then c (k + 1) else 0) → Sat true (d + 2) 155 σ.1 Q 105 (khL r p a b add hl v (some (vi (nI L))) (some (vi (nI (k + 1 + 1)))) none) [] (arrI h 244 0 (upd u (10 * (100 * r + hl) + k) x)) := by
      intro x hx
      refine ih (k + 1) _ (by omega) (fun j hj => ?_) (fun j hj => ?_)
      · unfold upd
        by_cases e : j = k
        · rw [if_pos (by omega), e]
          exact hx
        · rw [if_neg (by omega)]
          exact hu j (by omega)
      · unfold upd
        rw [if_neg (by omega)]
        exact ho j hj
    rw [mulN, addN, subN (by omega), addN, ix (by omega), ix (by omega), e1, show 10 * (100 * r + hl) + (k + 1) - 1 = 10 * (100 * r + hl) + k by omega, arrI_setI, arrI_setI]
    refine br_lt (by omega) (by omega) (fun g => by omega) (fun _ => br_lt (by omega) (by omega) (fun g => ⟨inb (by omega) (by omega), st _ ?_⟩) (fun g => ⟨inb (by omega) (by omega), inb (by omega) (by omega), st _ ?_⟩))
    · rw [if_neg (by omega)]
    · rw [if_pos (by omega)]
set_option maxRecDepth 6000 in
theorem m_keepHeading (d : Nat) {m o : Nat} {s : Option Nat} (hr : r < 12) (hp : p < 12) (hlen : hs.length < 100) (hv : v ≤ 3) (hadd : add ≤ 24) (hw : gName w) (hb : b = a + v + w.length) (hb160 : b ≤ 160) (ht1 : TxM σ p a (List.replicate v 61)) (htx : TxM σ p (a + v) w) (hm : m < 100) (ho : o < 54) (hsx : (m = 1 → s = some o) ∧ (m ≠ 1 → s = none)) (k1 : hI σ 241 0 r = nI hs.length) (k2 : All hs (HedM σ r hs)) (k3 : ∀ k, k < 64 → hI σ 260 0 k = nI (ctF hs k)) (k5 : hI σ 233 0 33 = nI o) (k6 : hI σ 233 0 30 = nI m) : PV (d + 2) 155 [vr 233 0, vi (nI r), vi (nI p), vi (nI a), vi (nI b), vi (nI add)] σ (fun h => HAddM σ h r hs (v + add, p, (w, cntN w hs), s) o) := by
  refine PV_of mt_155 (Nat.le_of_ble_eq_true rfl) fun Q hq => ?_
  have wl := gName_len hw
  -- the entry is left
  have s40 : Sat true (d + 2) 155 σ.1 Q 40 (khL r p a b add hs.length v none none none) [] σ := by
    refine wp_ok (cut := [81, 105]) ma_155 rfl 26 _ _ _ _ ?_
    show (vp_in (nI (100 * r + hs.length)) 1200 ∧ (vp_in (nI (100 * r + hs.length)) 1200 ∧ (vp_in ((nI v) + (nI add)) 64 ∧ (vp_in ((nI v) + (nI add)) 64 ∧ Sat true (d + 2) 155 σ.1 Q 81 [some (vr 233 0), some (vi (nI r)), some (vi (nI p)), some (vi (nI a)), some (vi (nI b)), some (vi (nI add)), some (vi (nI hs.length)), some (vi (nI (100 * r + hs.length))), some (vi (nI v)), some (vi ((nI v) + (nI add))), some (vi (((nI v) + (nI add)) + (nI 1))), none] [] (setI (setI (setI σ 242 0 ((nI (100 * r + hs.length)).toNatClampNeg) ((nI v) + (nI add))) 243 0 ((nI (100 * r + hs.length)).toNatClampNeg) (nI p)) 260 0 (((nI v) + (nI add)).toNatClampNeg) ((hI σ 260 0 (((nI v) + (nI add)).toNatClampNeg)) + (nI 1)))))))
    rw [addN, addN, ix (by omega), ix (by omega), k3 _ (by omega), addN]
    refine ⟨inb (by omega) (by omega), inb (by omega) (by omega), inb (by omega) (by omega), inb (by omega) (by omega), ?_⟩
    have f0 : FrM (SHd r) σ (setI (setI σ 242 0 (100 * r + hs.length) (nI (v + add))) 243 0 (100 * r + hs.length) (nI p)) := ((FrM.rfl' (SHd r) σ).sI (f := 242) (Or.inr (Or.inl ⟨by omega, by omega, by omega⟩)) _).sI (f := 243) (Or.inr (Or.inl ⟨by omega, by omega, by omega⟩)) _
    have g1 : hI (setI (setI σ 242 0 (100 * r + hs.length) (nI (v + add))) 243 0 (100 * r + hs.length) (nI p)) 242 0 (100 * r + hs.length) = nI (v + add) := by simp (disch := omega) only [hI_s, hI_k, hI_f, hI_sL, hL_sI, hL_s, hL_k, hL_f]
    have g2 : hI (setI (setI σ 242 0 (100 * r + hs.length) (nI (v + add))) 243 0 (100 * r + hs.length) (nI p)) 243 0 (100 * r + hs.length) = nI p := by simp (disch := omega) only [hI_s, hI_k, hI_f, hI_sL, hL_sI, hL_s, hL_k, hL_f]
    have g3 : All hs (HedM (setI (setI σ 242 0 (100 * r + hs.length) (nI (v + add))) 243 0 (100 * r + hs.length) (nI p)) r hs) := All_mo k2 fun j y hj q => HedM_cong (by simp (disch := omega) only [hI_s, hI_k, hI_f, hI_sL, hL_sI, hL_s, hL_k, hL_f]) (by simp (disch := omega) only [hI_s, hI_k, hI_f, hI_sL, hL_sI, hL_s, hL_k, hL_f]) (fun k _ _ => by simp (disch := omega) only [hI_s, hI_k, hI_f, hI_sL, hL_sI, hL_s, hL_k, hL_f]) (by simp (disch := omega) only [hI_s, hI_k, hI_f, hI_sL, hL_sI, hL_s, hL_k, hL_f]) (fun k _ => by simp (disch := omega) only [hI_s, hI_k, hI_f, hI_sL, hL_sI, hL_s, hL_k, hL_f]) q
    have g4 : hI (setI (setI σ 242 0 (100 * r + hs.length) (nI (v + add))) 243 0 (100 * r + hs.length) (nI p)) 241 0 r = nI hs.length := by simp (disch := omega) only [hI_s, hI_k, hI_f, hI_sL, hL_sI, hL_s, hL_k, hL_f]; exact k1
    have g5 : hI (setI (setI σ 242 0 (100 * r + hs.length) (nI (v + add))) 243 0 (100 * r + hs.length) (nI p)) 249 0 = hI σ 249 0 := by simp (disch := omega) only [hI_s, hI_k, hI_f, hI_sL, hL_sI, hL_s, hL_k, hL_f]
    have g6 : hI (setI (setI σ 242 0 (100 * r + hs.length) (nI (v + add))) 243 0 (100 * r + hs.length) (nI p)) 233 0 = hI σ 233 0 := by simp (disch := omega) only [hI_s, hI_k, hI_f, hI_sL, hL_sI, hL_s, hL_k, hL_f]
    have g7 : ∀ k, k < 64 → hI (setI (setI σ 242 0 (100 * r + hs.length) (nI (v + add))) 243 0 (100 * r + hs.length) (nI p)) 260 0 k = nI (ctF hs k) := fun k hk => by simp (disch := omega) only [hI_s, hI_k, hI_f, hI_sL, hL_sI, hL_s, hL_k, hL_f]; exact k3 k hk
    generalize setI (setI σ 242 0 (100 * r + hs.length) (nI (v + add))) 243 0 (100 * r + hs.length) (nI p) = h at f0 g1 g2 g3 g4 g5 g6 g7 ⊢
    rw [arrI_upd]
    refine s_kh81 f0.1 (ctS (ctF hs) (v + add)) (fun k hk => ?_) (fun u hu => ?_) (63 - (v + add)) (v + add + 1) _ (by omega) (by omega) (fun j hj => ?_)
    · unfold ctS
      rw [if_neg (by omega), if_pos hk]
    · have f1 : FrM (SHd r) σ (arrI h 260 0 u) := FrM.aI f0 fun k hk => absurd (Or.inr (Or.inr (Or.inr (Or.inr (Or.inl rfl))))) hk
      have i0 := arrI_self (arrI h 260 0 u) 244 0
      rw [← i0]
      refine s_kh105 hr hlen (by omega) (ctS (ctF hs) (v + add)) (fun k hk => ?_) (fun u2 q1 q2 => ?_) 10 0 _ (by omega) (fun j hj => absurd hj (Nat.not_lt_zero _)) (fun _ _ => rfl)
      · rw [hI_a]
        exact hu k hk
      · refine s_kh151 hr hp hlen hw hb hb160 htx hm ho hsx ?_ ?_ ?_ ?_ ?_ ?_ ?_ ?_ ?_ ?_ hq
        · simp (disch := omega) only [hI_af]
          exact g4
        · refine All_mo g3 fun j y hj q => HedM_cong ?_ ?_ (fun k _ _ => ?_) ?_ (fun k hk => ?_) q
          · simp (disch := omega) only [hI_af]
          · simp (disch := omega) only [hI_af]
          · simp (disch := omega) only [hI_af]
          · simp (disch := omega) only [hI_af]
          · rw [hI_a, q2 _ (by omega), hI_af _ _ (by decide)]
        · simp (disch := omega) only [hI_af]
          exact g1
        · simp (disch := omega) only [hI_af]
          exact g2
        · intro k hk
          rw [hI_a]
          exact q1 k hk
        · intro k hk
          rw [hI_af _ _ (by decide), hI_a]
          exact hu k hk
        · simp (disch := omega) only [hI_af]
          exact g5
        · simp (disch := omega) only [hI_af]
          rw [g6]
          exact k5
        · simp (disch := omega) only [hI_af]
          rw [g6]
          exact k6
        · refine FrM.aI f1 fun k hk => q2 k ?_
          unfold SHd at hk
          omega
    · unfold upd ctS
      by_cases e : j = v + add
      · rw [if_pos e, if_pos e]
      · rw [if_neg e, if_neg e, if_neg (by omega)]
        exact g7 j (by omega)
  have s20 : ∀ (m i : Nat), i + m = v → Sat true (d + 2) 155 σ.1 Q 20 (khL r p a b add hs.length i none none none) [] σ := by
    intro m
    induction m with
    | zero =>
      intro i hi
      have hi : i = v := hi
      subst hi
      have ss := m_sign (d + 1) σ (p := p) (i := a + i) (by omega)
      obtain ⟨c, rr, ew, c1, _⟩ := hw
      have t1 : hI σ 235 0 (160 * p + (a + i)) = nI c := by
        rw [ew] at htx
        exact htx.1
      rw [t1] at ss
      refine wp_ok (cut := [20, 40]) ma_155 rfl 10 _ _ _ _ ?_
      show CalI true (d + 1) 112 [vr 233 0, vi (nI p), vi ((nI a) + (nI i))] σ σ.1 (fun x2 s1 => ((¬ x2 = (nI 61) → Sat true (d + 2) 155 σ.1 Q 40 [some (vr 233 0), some (vi (nI r)), some (vi (nI p)), some (vi (nI a)), some (vi (nI b)), some (vi (nI add)), some (vi (nI hs.length)), some (vi (nI (100 * r + hs.length))), some (vi (nI i)), none, none, none] [] s1) ∧ (x2 = (nI 61) → Sat true (d + 2) 155 σ.1 Q 20 [some (vr 233 0), some (vi (nI r)), some (vi (nI p)), some (vi (nI a)), some (vi (nI b)), some (vi (nI add)), some (vi (nI hs.length)), some (vi (nI (100 * r + hs.length))), some (vi ((nI i) + nI 1)), none, none, none] [] s1)))
      rw [addN]
      have := c1.1
      have := c1.2
      exact cal_i ss rfl (br_ne (by omega) (by omega) (fun _ => s40) (fun g => by omega))
    | succ m ih =>
      intro i hi
      have ss := m_sign (d + 1) σ (p := p) (i := a + i) (by omega)
      have t1 : hI σ 235 0 (160 * p + (a + i)) = nI 61 := by
        have := Tx_get ht1 (k := i) (by rw [List.length_replicate]; omega)
        rw [show 160 * p + (a + i) = 160 * p + a + i by omega, this, List.getD_eq_getElem?_getD, List.getElem?_replicate, if_pos (by omega)]
        rfl
      rw [t1] at ss
      refine wp_ok (cut := [20, 40]) ma_155 rfl 10 _ _ _ _ ?_
      show CalI true (d + 1) 112 [vr 233 0, vi (nI p), vi ((nI a) + (nI i))] σ σ.1 (fun x2 s1 => ((¬ x2 = (nI 61) → Sat true (d + 2) 155 σ.1 Q 40 [some (vr 233 0), some (vi (nI r)), some (vi (nI p)), some (vi (nI a)), some (vi (nI b)), some (vi (nI add)), some (vi (nI hs.length)), some (vi (nI (100 * r + hs.length))), some (vi (nI i)), none, none, none] [] s1) ∧ (x2 = (nI 61) → Sat true (d + 2) 155 σ.1 Q 20 [some (vr 233 0), some (vi (nI r)), some (vi (nI p)), some (vi (nI a)), some (vi (nI b)), some (vi (nI add)), some (vi (nI hs.length)), some (vi (nI (100 * r + hs.length))), some (vi ((nI i) + nI 1)), none, none, none] [] s1)))
      rw [addN, addN]
      exact cal_i ss rfl (br_ne (by omega) (by omega) (fun g => absurd rfl g) (fun _ => ih (i + 1) (by omega)))
  refine wp_ok (cut := [20, 40]) ma_155 rfl 13 _ _ _ _ ?_
  show (vp_in (nI r) 12 ∧ Sat true (d + 2) 155 σ.1 Q 20 [some (vr 233 0), some (vi (nI r)), some (vi (nI p)), some (vi (nI a)), some (vi (nI b)), some (vi (nI add)), some (vi (hI σ 241 0 ((nI r).toNatClampNeg))), some (vi (((nI 100) * (nI r)) + (hI σ 241 0 ((nI r).toNatClampNeg)))), some (vi (nI 0)), none, none, none] [] σ)
  rw [ix (by omega), k1, mulN, addN]
  exact ⟨inb (by omega) (by omega), s20 v 0 (by omega)⟩
end
