theorem cal_i {d mj : Nat} {as : List AV} {σ : Hp} {B : Nat × Nat × Nat} {K : Int32 → Hp → Prop} {Q : Option AV → Hp → Prop} (h : Ev true d mj as σ σ.1 Q) (h1 : σ.1.1 ≤ B.1) (h2 : σ.1.2.1 ≤ B.2.1) (k : ∀ x σ', Q (some (vi x)) σ' → σ'.1 = σ.1 → K x σ') : CalI true d mj as σ B K := ⟨σ.1, Q, h, h1, h2, k⟩
theorem c_hasSource (d j p : Nat) (σ : Hp) (hp : p < 12) : Ev true d 60 [vr 8 0, vi (nI p)] σ σ.1 (fun r σ' => σ' = σ ∧ r = some (vi (if 0 < hI σ 10 0 p then 1 else 0))) := by
  refine Ev_of mt_60 (by decide) (Nat.le_refl _) (Nat.le_refl _) ?_
  refine wp_ok (cut := []) ma_60 rfl 8 _ _ _ _ ?_
  show (vp_in (nI p) 12 ∧ (((hI σ 10 0 ((nI p).toNatClampNeg)) ≤ 0 → (((nI 0) = 0 ∨ (nI 0) = 1) ∧ ((fun r σ' => σ' = σ ∧ r = some (vi (if 0 < hI σ 10 0 p then 1 else 0))) (some (vi (nI 0))) σ ∧ σ.1 = σ.1))) ∧ (¬ (hI σ 10 0 ((nI p).toNatClampNeg)) ≤ 0 → (((nI 1) = 0 ∨ (nI 1) = 1) ∧ ((fun r σ' => σ' = σ ∧ r = some (vi (if 0 < hI σ 10 0 p then 1 else 0))) (some (vi (nI 1))) σ ∧ σ.1 = σ.1)))))
  sorry
theorem c_sources (d : Nat) (σ : Hp) (f i : Int32) (Q : Option AV → Hp → Prop) : Sat true (d + 1) 61 σ.1 Q 4 [some (vr 8 0), some (vi f), some (vi i)] [] σ := by
  refine wp_ok (cut := [4]) ma_61 rfl 15 _ _ _ _ ?_
  show (((nI 12) ≤ i → (Q (some (vi f)) σ ∧ σ.1 = σ.1)) ∧ (¬ (nI 12) ≤ i → CalI true d 60 [vr 8 0, vi i] σ σ.1 (fun x2 s1 => ((x2 = 0 → Sat true (d + 1) 61 σ.1 Q 4 [some (vr 8 0), some (vi f), some (vi (i + nI 1))] [] s1) ∧ (¬ x2 = 0 → Sat true (d + 1) 61 σ.1 Q 4 [some (vr 8 0), some (vi (f ||| ((nI 1) <<< (i &&& 31)))), some (vi (i + nI 1))] [] s1)))))
  sorry
