/-! the class's State: redirects and memory as lists -/
abbrev Pl : Type := Nat × Option Anc
abbrev En : Type := Nat × Anc × Nat
def gPl (x : Pl) : Prop := x.1 < 12 ∧ gAO x.2
def RdC (σ : Hp) (j k : Nat) (x : Pl × Pl) : Prop := hI σ 11 j k = nI x.1.1 ∧ hL σ 12 j k = lN (anO x.1.2) ∧ hI σ 13 j k = nI x.2.1 ∧ hL σ 14 j k = lN (anO x.2.2) ∧ gPl x.1 ∧ gPl x.2
def RdsC (σ : Hp) (j : Nat) (rs : List (Pl × Pl)) : Prop := hI σ 8 j 2 = nI rs.length ∧ rs.length ≤ 12 ∧ All rs (RdC σ j)
def EnC (σ : Hp) (j k : Nat) (x : En) : Prop := hI σ 15 j k = nI x.1 ∧ hL σ 16 j k = lN (anC x.2.1) ∧ hI σ 17 j k = nI x.2.2 ∧ x.1 < 12 ∧ gAnc x.2.1 ∧ x.2.2 < 1000003
def EnsC (σ : Hp) (j : Nat) (es : List En) : Prop := hI σ 8 j 7 = nI es.length ∧ es.length ≤ 40 ∧ All es (EnC σ j)
/-- the first redirect from a place -/
def rdF (x : Pl) : List (Pl × Pl) → Nat → Int32
  | [], _ => (-6)
  | y :: r, i => if y.1 = x then nI i else rdF x r (i + 1)
theorem e_redirectFrom (d : Nat) {σ : Hp} {rs : List (Pl × Pl)} {x : Pl} (hr : RdsC σ 0 rs) (hx : gPl x) : EI d 62 [vr 8 0, vi (nI x.1), vl (lN (anO x.2))] σ (rdF x rs 0) σ := by
  obtain ⟨h2, h12, ha⟩ := hr
  have loop : ∀ (b a : List (Pl × Pl)), rs = a ++ b → ∀ Q : Option AV → Hp → Prop, Q (some (vi (rdF x b a.length))) σ → Sat true d 62 σ.1 Q 3 [some (vr 8 0), some (vi (nI x.1)), some (vl (lN (anO x.2))), none, some (vi (nI a.length))] [] σ := by
    intro b
    induction b with
    | nil =>
      intro a e Q hq
      rw [List.append_nil] at e
      subst e
      refine wp_ok (cut := [3]) ma_62 rfl 19 _ _ _ _ ?_
      show (((hI σ 8 0 2) ≤ (nI rs.length) → (Q (some (vi (-6))) σ ∧ σ.1 = σ.1)) ∧ (¬ (hI σ 8 0 2) ≤ (nI rs.length) → (vp_in (nI rs.length) 12 ∧ ((¬ (hI σ 11 0 ((nI rs.length).toNatClampNeg)) = (nI x.1) → Sat true d 62 σ.1 Q 3 [some (vr 8 0), some (vi (nI x.1)), some (vl (lN (anO x.2))), none, some (vi ((nI rs.length) + nI 1))] [] σ) ∧ ((hI σ 11 0 ((nI rs.length).toNatClampNeg)) = (nI x.1) → (vp_in (nI rs.length) 12 ∧ ((¬ (lg_cmp (hL σ 12 0 ((nI rs.length).toNatClampNeg)) (lN (anO x.2))) = 0 → Sat true d 62 σ.1 Q 3 [some (vr 8 0), some (vi (nI x.1)), some (vl (lN (anO x.2))), none, some (vi ((nI rs.length) + nI 1))] [] σ) ∧ ((lg_cmp (hL σ 12 0 ((nI rs.length).toNatClampNeg)) (lN (anO x.2))) = 0 → (Q (some (vi (nI rs.length))) σ ∧ σ.1 = σ.1)))))))))
      rw [h2]
      exact ⟨fun _ => ⟨hq, rfl⟩, fun g => absurd (Int32.le_refl _) g⟩
    | cons y b ih =>
      intro a e Q hq
      have hl : rs.length = a.length + (b.length + 1) := by rw [e, List.length_append, List.length_cons]
      have hy : RdC σ 0 a.length y := All_mid (by rw [← e]; exact ha)
      obtain ⟨y1, y2, _, _, y5, _⟩ := hy
      have x1 := hx.1
      have y6 := y5.1
      unfold rdF at hq
      have kq : y.1 ≠ x → Sat true d 62 σ.1 Q 3 [some (vr 8 0), some (vi (nI x.1)), some (vl (lN (anO x.2))), none, some (vi (nI (a.length + 1)))] [] σ := by
        intro g
        rw [if_neg g] at hq
        have kq := ih (a ++ [y]) (by rw [e, List.append_assoc]; rfl) Q (by rw [List.length_append]; exact hq)
        rw [List.length_append] at kq
        exact kq
      refine wp_ok (cut := [3]) ma_62 rfl 19 _ _ _ _ ?_
      show (((hI σ 8 0 2) ≤ (nI a.length) → (Q (some (vi (-6))) σ ∧ σ.1 = σ.1)) ∧ (¬ (hI σ 8 0 2) ≤ (nI a.length) → (vp_in (nI a.length) 12 ∧ ((¬ (hI σ 11 0 ((nI a.length).toNatClampNeg)) = (nI x.1) → Sat true d 62 σ.1 Q 3 [some (vr 8 0), some (vi (nI x.1)), some (vl (lN (anO x.2))), none, some (vi ((nI a.length) + nI 1))] [] σ) ∧ ((hI σ 11 0 ((nI a.length).toNatClampNeg)) = (nI x.1) → (vp_in (nI a.length) 12 ∧ ((¬ (lg_cmp (hL σ 12 0 ((nI a.length).toNatClampNeg)) (lN (anO x.2))) = 0 → Sat true d 62 σ.1 Q 3 [some (vr 8 0), some (vi (nI x.1)), some (vl (lN (anO x.2))), none, some (vi ((nI a.length) + nI 1))] [] σ) ∧ ((lg_cmp (hL σ 12 0 ((nI a.length).toNatClampNeg)) (lN (anO x.2))) = 0 → (Q (some (vi (nI a.length))) σ ∧ σ.1 = σ.1)))))))))
      rw [h2, ix (by omega), y1, y2, lg_cmp_eq, lO_inj y5.2 hx.2, addN]
      have i1 : vp_in (nI a.length) 12 := inb (by omega) (by omega)
      refine br_le (by omega) (by omega) (fun g => by omega) (fun _ => ⟨i1, br_ne (by omega) (by omega) (fun g => kq fun q => g (by rw [q])) (fun g => ⟨i1, fun g2 => kq fun q => g2 (by rw [q]), fun g2 => ?_⟩)⟩)
      rw [if_pos (Prod.ext g g2)] at hq
      exact ⟨hq, rfl⟩
  refine EI_of mt_62 (Nat.le_of_ble_eq_true rfl) fun Q hq => ?_
  refine wp_ok (cut := [3]) ma_62 rfl 2 _ _ _ _ ?_
  show Sat true d 62 σ.1 Q 3 [some (vr 8 0), some (vi (nI x.1)), some (vl (lN (anO x.2))), none, some (vi (nI 0))] [] σ
  exact loop rs [] rfl Q hq
/-- the first entry of a place -/
def enF (x : Pl) : List En → Nat → Int32
  | [], _ => (-6)
  | y :: r, i => if (y.1, some y.2.1) = x then nI i else enF x r (i + 1)
theorem e_entryWith (d : Nat) {σ : Hp} {es : List En} {x : Pl} (hr : EnsC σ 0 es) (hx : gPl x) : EI d 65 [vr 8 0, vi (nI x.1), vl (lN (anO x.2))] σ (enF x es 0) σ := by
  obtain ⟨h2, h40, ha⟩ := hr
  have loop : ∀ (b a : List En), es = a ++ b → ∀ Q : Option AV → Hp → Prop, Q (some (vi (enF x b a.length))) σ → Sat true d 65 σ.1 Q 3 [some (vr 8 0), some (vi (nI x.1)), some (vl (lN (anO x.2))), none, some (vi (nI a.length))] [] σ := by
    intro b
    induction b with
    | nil =>
      intro a e Q hq
      rw [List.append_nil] at e
      subst e
      refine wp_ok (cut := [3]) ma_65 rfl 19 _ _ _ _ ?_
      show (((hI σ 8 0 7) ≤ (nI es.length) → (Q (some (vi (-6))) σ ∧ σ.1 = σ.1)) ∧ (¬ (hI σ 8 0 7) ≤ (nI es.length) → (vp_in (nI es.length) 40 ∧ ((¬ (hI σ 15 0 ((nI es.length).toNatClampNeg)) = (nI x.1) → Sat true d 65 σ.1 Q 3 [some (vr 8 0), some (vi (nI x.1)), some (vl (lN (anO x.2))), none, some (vi ((nI es.length) + nI 1))] [] σ) ∧ ((hI σ 15 0 ((nI es.length).toNatClampNeg)) = (nI x.1) → (vp_in (nI es.length) 40 ∧ ((¬ (lg_cmp (hL σ 16 0 ((nI es.length).toNatClampNeg)) (lN (anO x.2))) = 0 → Sat true d 65 σ.1 Q 3 [some (vr 8 0), some (vi (nI x.1)), some (vl (lN (anO x.2))), none, some (vi ((nI es.length) + nI 1))] [] σ) ∧ ((lg_cmp (hL σ 16 0 ((nI es.length).toNatClampNeg)) (lN (anO x.2))) = 0 → (Q (some (vi (nI es.length))) σ ∧ σ.1 = σ.1)))))))))
      rw [h2]
      exact ⟨fun _ => ⟨hq, rfl⟩, fun g => absurd (Int32.le_refl _) g⟩
    | cons y b ih =>
      intro a e Q hq
      have hl : es.length = a.length + (b.length + 1) := by rw [e, List.length_append, List.length_cons]
      have hy : EnC σ 0 a.length y := All_mid (by rw [← e]; exact ha)
      obtain ⟨y1, y2, _, y6, y5, _⟩ := hy
      have x1 := hx.1
      have y2 : hL σ 16 0 a.length = lN (anO (some y.2.1)) := y2
      have yo : gAO (some y.2.1) := fun z hz => by cases hz; exact y5
      unfold enF at hq
      have kq : (y.1, some y.2.1) ≠ x → Sat true d 65 σ.1 Q 3 [some (vr 8 0), some (vi (nI x.1)), some (vl (lN (anO x.2))), none, some (vi (nI (a.length + 1)))] [] σ := by
        intro g
        rw [if_neg g] at hq
        have kq := ih (a ++ [y]) (by rw [e, List.append_assoc]; rfl) Q (by rw [List.length_append]; exact hq)
        rw [List.length_append] at kq
        exact kq
      refine wp_ok (cut := [3]) ma_65 rfl 19 _ _ _ _ ?_
      show (((hI σ 8 0 7) ≤ (nI a.length) → (Q (some (vi (-6))) σ ∧ σ.1 = σ.1)) ∧ (¬ (hI σ 8 0 7) ≤ (nI a.length) → (vp_in (nI a.length) 40 ∧ ((¬ (hI σ 15 0 ((nI a.length).toNatClampNeg)) = (nI x.1) → Sat true d 65 σ.1 Q 3 [some (vr 8 0), some (vi (nI x.1)), some (vl (lN (anO x.2))), none, some (vi ((nI a.length) + nI 1))] [] σ) ∧ ((hI σ 15 0 ((nI a.length).toNatClampNeg)) = (nI x.1) → (vp_in (nI a.length) 40 ∧ ((¬ (lg_cmp (hL σ 16 0 ((nI a.length).toNatClampNeg)) (lN (anO x.2))) = 0 → Sat true d 65 σ.1 Q 3 [some (vr 8 0), some (vi (nI x.1)), some (vl (lN (anO x.2))), none, some (vi ((nI a.length) + nI 1))] [] σ) ∧ ((lg_cmp (hL σ 16 0 ((nI a.length).toNatClampNeg)) (lN (anO x.2))) = 0 → (Q (some (vi (nI a.length))) σ ∧ σ.1 = σ.1)))))))))
      rw [h2, ix (by omega), y1, y2, lg_cmp_eq, lO_inj yo hx.2, addN]
      have i1 : vp_in (nI a.length) 40 := inb (by omega) (by omega)
      refine br_le (by omega) (by omega) (fun g => by omega) (fun _ => ⟨i1, br_ne (by omega) (by omega) (fun g => kq fun q => g (by rw [← q])) (fun g => ⟨i1, fun g2 => kq fun q => g2 (by rw [← q]), fun g2 => ?_⟩)⟩)
      rw [if_pos (Prod.ext g g2)] at hq
      exact ⟨hq, rfl⟩
  refine EI_of mt_65 (Nat.le_of_ble_eq_true rfl) fun Q hq => ?_
  refine wp_ok (cut := [3]) ma_65 rfl 2 _ _ _ _ ?_
  show Sat true d 65 σ.1 Q 3 [some (vr 8 0), some (vi (nI x.1)), some (vl (lN (anO x.2))), none, some (vi (nI 0))] [] σ
  exact loop es [] rfl Q hq
