/-! the model: go -/
def goRow (u : Nat → Int32) (t : Nat) (g : Nat → Int32) : Nat → Int32 := fun k => if t ≤ k ∧ k < t + 14 then g (k - t) else u k
def goG (σ : Hp) (r s : Nat) (b : Bool) : Nat → Int32 := fun j => if j = 0 ∨ b = false then hI σ 235 0 (1932 + 28 * r + 14 + j) else hI σ 261 0 (14 * s + j)
section
variable {σ : Hp}
theorem m_go (d : Nat) {r s : Nat} (hr : r < 12) (hs : s ≤ 390) (h35 : hI σ 233 0 35 = nI s) (b : Bool) : EV (d + 1) 176 [vr 233 0, vi (nI r), vi (bI b)] σ (setI (setI (arrI σ 261 0 (goRow (hI σ 261 0) (14 * s + 14) (goG σ r s b))) 262 0 r (hI σ 262 0 r + nI 1)) 233 0 35 (nI (s + 1))) := by
  refine EV_of mt_176 (Nat.le_of_ble_eq_true rfl) fun Q hq => ?_
  have loop : ∀ (m k : Nat) (u : Nat → Int32), k + m = 14 → (∀ j, j < 14 * s + 14 + k → u j = goRow (hI σ 261 0) (14 * s + 14) (goG σ r s b) j) → (∀ j, 14 * s + 14 + k ≤ j → u j = hI σ 261 0 j) → 1 ≤ k → Sat true (d + 1) 176 σ.1 Q 37 [some (vr 233 0), some (vi (nI r)), some (vi (bI b)), some (vi (nI (14 * s))), some (vi (nI (14 * s + 14))), some (vi (nI k))] [] (arrI σ 261 0 u) := by
    intro m
    induction m with
    | zero =>
      intro k u hk h1 h2 _
      have e : u = goRow (hI σ 261 0) (14 * s + 14) (goG σ r s b) := by
        funext j
        by_cases c : j < 14 * s + 14 + k
        · exact h1 j c
        · rw [h2 j (by omega)]
          unfold goRow
          rw [if_neg (by omega)]
      rw [e]
      have e1 : hI (arrI σ 261 0 (goRow (hI σ 261 0) (14 * s + 14) (goG σ r s b))) 262 0 r = hI σ 262 0 r := by rw [hI_af _ _ (by decide)]
      have e2 : hI (arrI σ 261 0 (goRow (hI σ 261 0) (14 * s + 14) (goG σ r s b))) 233 0 35 = nI s := by rw [hI_af _ _ (by decide)]; exact h35
      refine wp_ok (cut := [37]) ma_176 rfl 23 _ _ _ _ ?_
      show (((nI 14) ≤ (nI k) → (vp_in (nI r) 12 ∧ (vp_in (nI r) 12 ∧ (Q none (setI (setI (arrI σ 261 0 (goRow (hI σ 261 0) (14 * s + 14) (goG σ r s b))) 262 0 ((nI r).toNatClampNeg) ((hI (arrI σ 261 0 (goRow (hI σ 261 0) (14 * s + 14) (goG σ r s b))) 262 0 ((nI r).toNatClampNeg)) + (nI 1))) 233 0 35 ((hI (arrI σ 261 0 (goRow (hI σ 261 0) (14 * s + 14) (goG σ r s b))) 233 0 35) + (nI 1))) ∧ (arrI σ 261 0 (goRow (hI σ 261 0) (14 * s + 14) (goG σ r s b))).1 = σ.1)))) ∧ (¬ (nI 14) ≤ (nI k) → (((bI b) = 0 → CalI true d 165 [vr 233 0, vi (nI r)] (arrI σ 261 0 (goRow (hI σ 261 0) (14 * s + 14) (goG σ r s b))) σ.1 (fun x2 s1 => (vp_in ((x2 + (nI 14)) + (nI k)) 2830 ∧ (vp_in ((nI (14 * s + 14)) + (nI k)) 5600 ∧ Sat true (d + 1) 176 σ.1 Q 37 [some (vr 233 0), some (vi (nI r)), some (vi (bI b)), some (vi (nI (14 * s))), some (vi (nI (14 * s + 14))), some (vi ((nI k) + nI 1))] [] (setI s1 261 0 (((nI (14 * s + 14)) + (nI k)).toNatClampNeg) (hI s1 235 0 (((x2 + (nI 14)) + (nI k)).toNatClampNeg))))))) ∧ (¬ (bI b) = 0 → (vp_in ((nI (14 * s)) + (nI k)) 5600 ∧ (vp_in ((nI (14 * s + 14)) + (nI k)) 5600 ∧ Sat true (d + 1) 176 σ.1 Q 37 [some (vr 233 0), some (vi (nI r)), some (vi (bI b)), some (vi (nI (14 * s))), some (vi (nI (14 * s + 14))), some (vi ((nI k) + nI 1))] [] (setI (arrI σ 261 0 (goRow (hI σ 261 0) (14 * s + 14) (goG σ r s b))) 261 0 (((nI (14 * s + 14)) + (nI k)).toNatClampNeg) (hI (arrI σ 261 0 (goRow (hI σ 261 0) (14 * s + 14) (goG σ r s b))) 261 0 (((nI (14 * s)) + (nI k)).toNatClampNeg)))))))))
      rw [ix (by omega), e1, e2, addN]
      exact br_le (by omega) (by omega) (fun _ => ⟨inb (by omega) (by omega), inb (by omega) (by omega), hq, rfl⟩) (fun g => by omega)
    | succ m ih =>
      intro k u hk h1 h2 h3
      have nx : ∀ v : Int32, v = goG σ r s b k → Sat true (d + 1) 176 σ.1 Q 37 [some (vr 233 0), some (vi (nI r)), some (vi (bI b)), some (vi (nI (14 * s))), some (vi (nI (14 * s + 14))), some (vi (nI (k + 1)))] [] (setI (arrI σ 261 0 u) 261 0 (14 * s + 14 + k) v) := by
        intro v hv
        rw [arrI_setI]
        refine ih (k + 1) _ (by omega) (fun j hj => ?_) (fun j hj => ?_) (by omega)
        · unfold upd
          by_cases c : j = 14 * s + 14 + k
          · rw [if_pos c, hv, c]
            unfold goRow
            rw [if_pos (by omega), show 14 * s + 14 + k - (14 * s + 14) = k by omega]
          · rw [if_neg c]
            exact h1 j (by omega)
        · unfold upd
          rw [if_neg (by omega)]
          exact h2 j (by omega)
      refine wp_ok (cut := [37]) ma_176 rfl 23 _ _ _ _ ?_
      show (((nI 14) ≤ (nI k) → (vp_in (nI r) 12 ∧ (vp_in (nI r) 12 ∧ (Q none (setI (setI (arrI σ 261 0 u) 262 0 ((nI r).toNatClampNeg) ((hI (arrI σ 261 0 u) 262 0 ((nI r).toNatClampNeg)) + (nI 1))) 233 0 35 ((hI (arrI σ 261 0 u) 233 0 35) + (nI 1))) ∧ (arrI σ 261 0 u).1 = σ.1)))) ∧ (¬ (nI 14) ≤ (nI k) → (((bI b) = 0 → CalI true d 165 [vr 233 0, vi (nI r)] (arrI σ 261 0 u) σ.1 (fun x2 s1 => (vp_in ((x2 + (nI 14)) + (nI k)) 2830 ∧ (vp_in ((nI (14 * s + 14)) + (nI k)) 5600 ∧ Sat true (d + 1) 176 σ.1 Q 37 [some (vr 233 0), some (vi (nI r)), some (vi (bI b)), some (vi (nI (14 * s))), some (vi (nI (14 * s + 14))), some (vi ((nI k) + nI 1))] [] (setI s1 261 0 (((nI (14 * s + 14)) + (nI k)).toNatClampNeg) (hI s1 235 0 (((x2 + (nI 14)) + (nI k)).toNatClampNeg))))))) ∧ (¬ (bI b) = 0 → (vp_in ((nI (14 * s)) + (nI k)) 5600 ∧ (vp_in ((nI (14 * s + 14)) + (nI k)) 5600 ∧ Sat true (d + 1) 176 σ.1 Q 37 [some (vr 233 0), some (vi (nI r)), some (vi (bI b)), some (vi (nI (14 * s))), some (vi (nI (14 * s + 14))), some (vi ((nI k) + nI 1))] [] (setI (arrI σ 261 0 u) 261 0 (((nI (14 * s + 14)) + (nI k)).toNatClampNeg) (hI (arrI σ 261 0 u) 261 0 (((nI (14 * s)) + (nI k)).toNatClampNeg)))))))))
      rw [addN, addN, addN, ix (by omega), ix (by omega)]
      refine br_le (by omega) (by omega) (fun g => by omega) (fun _ => brI (fun g => cal_i (m_turnAt d _ r) rfl ?_) (fun g => ⟨inb (by omega) (by omega), inb (by omega) (by omega), nx _ ?_⟩))
      · rw [addN, addN, ix (by omega)]
        refine ⟨inb (by omega) (by omega), inb (by omega) (by omega), nx _ ?_⟩
        rw [hI_af _ _ (by decide)]
        unfold goG
        rw [if_pos (Or.inr g)]
      · rw [ix (by omega), hI_a, h1 _ (by omega)]
        unfold goRow goG
        rw [if_neg (by omega), if_neg (fun w => by
          rcases w with w | w
          · omega
          · rw [g] at w
            cases w)]
  refine wp_ok (cut := [37]) ma_176 rfl 23 _ _ _ _ ?_
  show CalI true d 165 [vr 233 0, vi (nI r)] σ σ.1 (fun x2 s1 => (vp_in (x2 + (nI 14)) 2830 ∧ (vp_in (((nI 14) * (hI σ 233 0 35)) + (nI 14)) 5600 ∧ Sat true (d + 1) 176 σ.1 Q 37 [some (vr 233 0), some (vi (nI r)), some (vi (bI b)), some (vi ((nI 14) * (hI σ 233 0 35))), some (vi (((nI 14) * (hI σ 233 0 35)) + (nI 14))), some (vi (nI 1))] [] (setI s1 261 0 ((((nI 14) * (hI σ 233 0 35)) + (nI 14)).toNatClampNeg) (hI s1 235 0 ((x2 + (nI 14)).toNatClampNeg))))))
  refine cal_i (m_turnAt d σ r) rfl ?_
  rw [h35, mulN, addN, addN, ix (by omega), ix (by omega), arrI_upd]
  refine ⟨inb (by omega) (by omega), inb (by omega) (by omega), loop 13 1 _ (by omega) (fun j hj => ?_) (fun j hj => ?_) (by omega)⟩
  · unfold upd goRow goG
    by_cases c : j = 14 * s + 14
    · rw [if_pos c, if_pos (by omega), if_pos (by omega), c, Nat.sub_self, Nat.add_zero]
    · rw [if_neg c, if_neg (by omega)]
  · unfold upd
    rw [if_neg (by omega)]
end
