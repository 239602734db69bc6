/-! the model: how many lines a page has -/
def ct59 : List Nat → Nat
  | [] => 0
  | c :: r => (if c = 59 then 1 else 0) + ct59 r
theorem ct59_app (a b : List Nat) : ct59 (a ++ b) = ct59 a + ct59 b := by
  induction a with
  | nil => show ct59 b = 0 + ct59 b; omega
  | cons c r ih =>
    show (if c = 59 then 1 else 0) + ct59 (r ++ b) = (if c = 59 then 1 else 0) + ct59 r + ct59 b
    omega
theorem ct59_0 : ∀ {w : List Nat}, (∀ y ∈ w, y ≠ 59) → ct59 w = 0 := by
  intro w
  induction w with
  | nil => intro _; rfl
  | cons c r ih =>
    intro h
    show (if c = 59 then 1 else 0) + ct59 r = 0
    rw [if_neg (h c List.mem_cons_self), ih fun y hy => h y (List.mem_cons_of_mem _ hy)]
theorem ct59_pg : ∀ {ls : List Line}, gPg ls → ls ≠ [] → 1 + ct59 (txPg ls) = ls.length := by
  intro ls
  induction ls with
  | nil => intro _ h; exact absurd rfl h
  | cons l r ih =>
    intro hg _
    have h0 : ct59 (txLine l) = 0 := ct59_0 fun y hy => (txLine_s (hg l List.mem_cons_self) y hy).2
    cases r with
    | nil => show 1 + ct59 (txLine l) = 1; omega
    | cons f r' =>
      have h1 := ih (fun y hy => hg y (List.mem_cons_of_mem _ hy)) (fun q => by cases q)
      rw [txPg_cons l (fun q => by cases q), ct59_app, h0]
      show 1 + (0 + ((if 59 = 59 then 1 else 0) + ct59 (txPg (f :: r')))) = (f :: r').length + 1
      rw [if_pos rfl]
      omega
theorem m_linesOf (d : Nat) {σ : Hp} {p : Nat} {ls : List Line} (hp : p < 12) (hs : SrcM σ p ls) (hne : ls ≠ []) : EI (d + 1) 139 [vr 233 0, vi (nI p)] σ (nI ls.length) σ := by
  obtain ⟨g1, g2, g3, g4⟩ := hs
  rw [if_neg hne] at g3
  have c := m_size d σ hp
  rw [g3] at c
  have hsm : ∀ y ∈ txPg ls, y < 128 := by
    have : ∀ {ls : List Line}, gPg ls → ∀ y ∈ txPg ls, y < 128 := by
      intro ls
      induction ls with
      | nil => intro _ y hy; cases hy
      | cons l r ih =>
        intro hg y hy
        cases r with
        | nil => exact (txLine_s (hg l List.mem_cons_self) y hy).1
        | cons f r' =>
          rw [txPg_cons l (fun q => by cases q)] at hy
          rcases List.mem_append.mp hy with q | q
          · exact (txLine_s (hg l List.mem_cons_self) y q).1
          · rcases List.mem_cons.mp q with q | q
            · omega
            · exact ih (fun z hz => hg z (List.mem_cons_of_mem _ hz)) y q
    exact this g1
  have loop : ∀ (w : List Nat) (i k : Nat), (∀ y ∈ w, y < 128) → TxM σ p i w → i + w.length = (txPg ls).length → k ≤ i + 1 → ∀ Q : Option AV → Hp → Prop, Q (some (vi (nI (k + ct59 w)))) σ → Sat true (d + 1) 139 σ.1 Q 4 [some (vr 233 0), some (vi (nI p)), some (vi (nI k)), some (vi (nI i))] [] σ := by
    intro w
    induction w with
    | nil =>
      intro i k _ _ hi hk Q hq
      have hi : i = (txPg ls).length := hi
      refine wp_ok (cut := [4]) ma_139 rfl 18 _ _ _ _ ?_
      show CalI true d 110 [vr 233 0, vi (nI p)] σ σ.1 (fun x2 s1 => ((x2 ≤ (nI i) → (Q (some (vi (nI k))) s1 ∧ s1.1 = σ.1)) ∧ (¬ x2 ≤ (nI i) → CalI true d 112 [vr 233 0, vi (nI p), vi (nI i)] s1 σ.1 (fun x4 s3 => ((¬ x4 = (nI 59) → Sat true (d + 1) 139 σ.1 Q 4 [some (vr 233 0), some (vi (nI p)), some (vi ((nI k) + (nI 0))), some (vi ((nI i) + nI 1))] [] s3) ∧ (x4 = (nI 59) → Sat true (d + 1) 139 σ.1 Q 4 [some (vr 233 0), some (vi (nI p)), some (vi ((nI k) + (nI 1))), some (vi ((nI i) + nI 1))] [] s3))))))
      exact cal_i c rfl (br_le (by omega) (by omega) (fun _ => ⟨hq, rfl⟩) (fun g => by omega))
    | cons y w ih =>
      intro i k hw ht hi hk Q hq
      rw [List.length_cons] at hi
      have hy := hw y List.mem_cons_self
      obtain ⟨t1, t2⟩ := ht
      have s := m_sign d σ (p := p) (i := i) (by omega)
      rw [t1] at s
      have kq : ∀ e, e = (if y = 59 then 1 else 0) → Sat true (d + 1) 139 σ.1 Q 4 [some (vr 233 0), some (vi (nI p)), some (vi (nI (k + e))), some (vi (nI (i + 1)))] [] σ := by
        intro e he
        refine ih (i + 1) (k + e) (fun z hz => hw z (List.mem_cons_of_mem _ hz)) (by unfold TxM; rw [← Nat.add_assoc]; exact t2) (by omega) (by rw [he]; split <;> omega) Q ?_
        have : k + ct59 (y :: w) = k + e + ct59 w := by
          show k + ((if y = 59 then 1 else 0) + ct59 w) = _
          rw [he]
          omega
        rw [← this]
        exact hq
      refine wp_ok (cut := [4]) ma_139 rfl 18 _ _ _ _ ?_
      show CalI true d 110 [vr 233 0, vi (nI p)] σ σ.1 (fun x2 s1 => ((x2 ≤ (nI i) → (Q (some (vi (nI k))) s1 ∧ s1.1 = σ.1)) ∧ (¬ x2 ≤ (nI i) → CalI true d 112 [vr 233 0, vi (nI p), vi (nI i)] s1 σ.1 (fun x4 s3 => ((¬ x4 = (nI 59) → Sat true (d + 1) 139 σ.1 Q 4 [some (vr 233 0), some (vi (nI p)), some (vi ((nI k) + (nI 0))), some (vi ((nI i) + nI 1))] [] s3) ∧ (x4 = (nI 59) → Sat true (d + 1) 139 σ.1 Q 4 [some (vr 233 0), some (vi (nI p)), some (vi ((nI k) + (nI 1))), some (vi ((nI i) + nI 1))] [] s3))))))
      refine cal_i c rfl (br_le (by omega) (by omega) (fun g => by omega) (fun _ => cal_i s rfl ?_))
      rw [addN, addN, addN]
      exact br_ne (by omega) (by omega) (fun g => kq 0 (by rw [if_neg g])) (fun g => kq 1 (by rw [if_pos g]))
  refine EI_of mt_139 (Nat.le_of_ble_eq_true rfl) fun Q hq => ?_
  refine wp_ok (cut := [4]) ma_139 rfl 4 _ _ _ _ ?_
  show Sat true (d + 1) 139 σ.1 Q 4 [some (vr 233 0), some (vi (nI p)), some (vi (nI 1)), some (vi (nI 0))] [] σ
  exact loop (txPg ls) 0 1 hsm g4 (by omega) (by omega) Q (by rw [ct59_pg g1 hne]; exact hq)
