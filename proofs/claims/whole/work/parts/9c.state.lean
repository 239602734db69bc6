/-! the class's State: redirects and entries are added and dropped -/
theorem hI_cp (σ : Hp) (f p sp g q dp n k : Nat) : hI (cpI σ f p sp g q dp n) g q k = if dp ≤ k ∧ k < dp + n then hI σ f p (sp + (k - dp)) else hI σ g q k := by
  show (if g = g ∧ q = q then va_cpy (hI σ f p) (hI σ g q) sp dp n k else _) = _
  rw [if_pos ⟨rfl, rfl⟩]
  unfold va_cpy
  rfl
theorem hI_cpf (σ : Hp) {f p sp g q dp n f' p' : Nat} (h : f' ≠ g ∨ p' ≠ q) : hI (cpI σ f p sp g q dp n) f' p' = hI σ f' p' := by
  funext k
  show (if f' = g ∧ p' = q then _ else hI σ f' p' k) = _
  rw [if_neg (by omega)]
theorem hL_cp (σ : Hp) (f p sp g q dp n k : Nat) : hL (cpL σ f p sp g q dp n) g q k = if dp ≤ k ∧ k < dp + n then hL σ f p (sp + (k - dp)) else hL σ g q k := by
  show (if g = g ∧ q = q then va_cpy (hL σ f p) (hL σ g q) sp dp n k else _) = _
  rw [if_pos ⟨rfl, rfl⟩]
  unfold va_cpy
  rfl
theorem hL_cpf (σ : Hp) {f p sp g q dp n f' p' : Nat} (h : f' ≠ g ∨ p' ≠ q) : hL (cpL σ f p sp g q dp n) f' p' = hL σ f' p' := by
  funext k
  show (if f' = g ∧ p' = q then _ else hL σ f' p' k) = _
  rw [if_neg (by omega)]
theorem hI_cpL (σ : Hp) (f p sp g q dp n : Nat) : hI (cpL σ f p sp g q dp n) = hI σ := rfl
theorem hL_cpI (σ : Hp) (f p sp g q dp n : Nat) : hL (cpI σ f p sp g q dp n) = hL σ := rfl
def SRd (f i : Nat) : Prop := i = 0 ∧ (f = 8 ∨ (11 ≤ f ∧ f ≤ 14))
def SEn (f i : Nat) : Prop := i = 0 ∧ (f = 8 ∨ (15 ≤ f ∧ f ≤ 17))
section
variable {σ : Hp} {rs : List (Pl × Pl)} {es : List En}
theorem e_addRedirect (d : Nat) {x y : Pl} (hr : RdsC σ 0 rs) (hl : rs.length < 12) (gx : gPl x) (gy : gPl y) : PV d 63 [vr 8 0, vi (nI x.1), vl (lN (anO x.2)), vi (nI y.1), vl (lN (anO y.2))] σ (fun h => RdsC h 0 (rs ++ [(x, y)]) ∧ (∀ k, k ≠ 2 → hI h 8 0 k = hI σ 8 0 k) ∧ Fr SRd σ h) := by
  refine PV_of mt_63 (Nat.le_of_ble_eq_true rfl) fun Q hq => ?_
  obtain ⟨r1, r2, r3⟩ := hr
  refine wp_ok (cut := []) ma_63 rfl 35 _ _ _ _ ?_
  show (((hI σ 8 0 2) < (nI 12) → (vp_in (hI σ 8 0 2) 12 ∧ (vp_in (hI σ 8 0 2) 12 ∧ (vp_in (hI σ 8 0 2) 12 ∧ (vp_in (hI σ 8 0 2) 12 ∧ (Q none (setI (setL (setI (setL (setI σ 11 0 ((hI σ 8 0 2).toNatClampNeg) (nI x.1)) 12 0 ((hI σ 8 0 2).toNatClampNeg) (lN (anO x.2))) 13 0 ((hI σ 8 0 2).toNatClampNeg) (nI y.1)) 14 0 ((hI σ 8 0 2).toNatClampNeg) (lN (anO y.2))) 8 0 2 ((hI σ 8 0 2) + (nI 1))) ∧ σ.1 = σ.1)))))) ∧ (¬ (hI σ 8 0 2) < (nI 12) → (Q none σ ∧ σ.1 = σ.1)))
  rw [r1, ix (by omega), addN]
  have i1 : vp_in (nI rs.length) 12 := inb (by omega) (by omega)
  refine br_lt (by omega) (by omega) (fun _ => ⟨i1, i1, i1, i1, hq _ ⟨⟨?_, ?_, ?_⟩, fun k hk => ?_, ?_⟩, rfl⟩) (fun g => by omega)
  · rw [List.length_append, hI_s]
    rfl
  · rw [List.length_append]
    show rs.length + 1 ≤ 12
    omega
  · refine All_snoc r3 (fun j z hj c => ⟨?_, ?_, ?_, ?_, c.2.2.2.2⟩) ⟨?_, ?_, ?_, ?_, gx, gy⟩
    · simp (disch := omega) only [hI_s, hI_k, hI_f, hI_sL, hL_sI, hL_s, hL_k, hL_f]
      exact c.1
    · simp (disch := omega) only [hI_s, hI_k, hI_f, hI_sL, hL_sI, hL_s, hL_k, hL_f]
      exact c.2.1
    · simp (disch := omega) only [hI_s, hI_k, hI_f, hI_sL, hL_sI, hL_s, hL_k, hL_f]
      exact c.2.2.1
    · simp (disch := omega) only [hI_s, hI_k, hI_f, hI_sL, hL_sI, hL_s, hL_k, hL_f]
      exact c.2.2.2.1
    · simp (disch := omega) only [hI_s, hI_k, hI_f, hI_sL, hL_sI, hL_s, hL_k, hL_f]
    · simp (disch := omega) only [hI_s, hI_k, hI_f, hI_sL, hL_sI, hL_s, hL_k, hL_f]
    · simp (disch := omega) only [hI_s, hI_k, hI_f, hI_sL, hL_sI, hL_s, hL_k, hL_f]
    · simp (disch := omega) only [hI_s, hI_k, hI_f, hI_sL, hL_sI, hL_s, hL_k, hL_f]
  · simp (disch := omega) only [hI_s, hI_k, hI_f, hI_sL, hL_sI, hL_s, hL_k, hL_f]
  · exact (((((Fr.rfl' SRd σ).sI (f := 11) ⟨rfl, by omega⟩ _ _).sL (f := 12) ⟨rfl, by omega⟩ _ _).sI (f := 13) ⟨rfl, by omega⟩ _ _).sL (f := 14) ⟨rfl, by omega⟩ _ _).sI (f := 8) ⟨rfl, by omega⟩ _ _
theorem er_at {α : Type} {l : List α} {r j : Nat} {y : α} (hr : r < l.length) (h : (l.eraseIdx r)[j]? = some y) : (j < r ∧ l[j]? = some y) ∨ (r ≤ j ∧ l[j + 1]? = some y) := by
  rw [List.getElem?_eraseIdx] at h
  by_cases c : j < r
  · rw [if_pos c] at h
    exact Or.inl ⟨c, h⟩
  · rw [if_neg c] at h
    exact Or.inr ⟨by omega, h⟩
theorem er_len {α : Type} {l : List α} {r : Nat} (hr : r < l.length) : (l.eraseIdx r).length = l.length - 1 := List.length_eraseIdx_of_lt hr
theorem nn0 (n : Nat) (h : n < 2147483648) : ¬ nI n < 0 := fun w => by
  have : nI n < nI 0 := w
  have := (ltN h (by omega)).mp this
  omega
set_option maxRecDepth 6000 in
theorem e_dropRedirect (d : Nat) {r : Nat} (hr : RdsC σ 0 rs) (hl : r < rs.length) : PV (d + 1) 64 [vr 8 0, vi (nI r)] σ (fun h => RdsC h 0 (rs.eraseIdx r) ∧ (∀ k, k ≠ 2 → hI h 8 0 k = hI σ 8 0 k) ∧ Fr SRd σ h) := by
  refine PV_of mt_64 (Nat.le_of_ble_eq_true rfl) fun Q hq => ?_
  obtain ⟨r1, r2, r3⟩ := hr
  refine wp_ok (cut := []) ma_64 rfl 58 _ _ _ _ ?_
  show (((nI r) < 0 → (Q none σ ∧ σ.1 = σ.1)) ∧ (¬ (nI r) < 0 → ((0 ≤ (((hI σ 8 0 2) - (nI r)) - (nI 1)) → (¬ ((nI r) + (nI 1)) < 0 ∧ ¬ (nI r) < 0 ∧ ¬ (((hI σ 8 0 2) - (nI r)) - (nI 1)) < 0 ∧ ((nI r) + (nI 1)).toNatClampNeg + (((hI σ 8 0 2) - (nI r)) - (nI 1)).toNatClampNeg ≤ 12 ∧ (nI r).toNatClampNeg + (((hI σ 8 0 2) - (nI r)) - (nI 1)).toNatClampNeg ≤ 12 ∧ (¬ ((nI r) + (nI 1)) < 0 ∧ ¬ (nI r) < 0 ∧ ¬ (((hI σ 8 0 2) - (nI r)) - (nI 1)) < 0 ∧ ((nI r) + (nI 1)).toNatClampNeg + (((hI σ 8 0 2) - (nI r)) - (nI 1)).toNatClampNeg ≤ 12 ∧ (nI r).toNatClampNeg + (((hI σ 8 0 2) - (nI r)) - (nI 1)).toNatClampNeg ≤ 12 ∧ (¬ ((nI r) + (nI 1)) < 0 ∧ ¬ (nI r) < 0 ∧ ¬ (((hI σ 8 0 2) - (nI r)) - (nI 1)) < 0 ∧ ((nI r) + (nI 1)).toNatClampNeg + (((hI σ 8 0 2) - (nI r)) - (nI 1)).toNatClampNeg ≤ 12 ∧ (nI r).toNatClampNeg + (((hI σ 8 0 2) - (nI r)) - (nI 1)).toNatClampNeg ≤ 12 ∧ (¬ ((nI r) + (nI 1)) < 0 ∧ ¬ (nI r) < 0 ∧ ¬ (((hI σ 8 0 2) - (nI r)) - (nI 1)) < 0 ∧ ((nI r) + (nI 1)).toNatClampNeg + (((hI σ 8 0 2) - (nI r)) - (nI 1)).toNatClampNeg ≤ 12 ∧ (nI r).toNatClampNeg + (((hI σ 8 0 2) - (nI r)) - (nI 1)).toNatClampNeg ≤ 12 ∧ (Q none (setI (cpL (cpI (cpL (cpI σ 11 0 (((nI r) + (nI 1)).toNatClampNeg) 11 0 ((nI r).toNatClampNeg) ((((hI σ 8 0 2) - (nI r)) - (nI 1)).toNatClampNeg)) 12 0 (((nI r) + (nI 1)).toNatClampNeg) 12 0 ((nI r).toNatClampNeg) ((((hI σ 8 0 2) - (nI r)) - (nI 1)).toNatClampNeg)) 13 0 (((nI r) + (nI 1)).toNatClampNeg) 13 0 ((nI r).toNatClampNeg) ((((hI σ 8 0 2) - (nI r)) - (nI 1)).toNatClampNeg)) 14 0 (((nI r) + (nI 1)).toNatClampNeg) 14 0 ((nI r).toNatClampNeg) ((((hI σ 8 0 2) - (nI r)) - (nI 1)).toNatClampNeg)) 8 0 2 ((hI σ 8 0 2) - (nI 1))) ∧ σ.1 = σ.1)))))) ∧ (¬ 0 ≤ (((hI σ 8 0 2) - (nI r)) - (nI 1)) → (Q none σ ∧ σ.1 = σ.1)))))
  rw [r1, subN (a := rs.length) (b := r) (by omega), subN (a := rs.length - r) (b := 1) (by omega), addN, ix (n := rs.length - r - 1) (by omega), ix (n := r + 1) (by omega), ix (n := r) (by omega), subN (a := rs.length) (b := 1) (by omega)]
  have n1 := nn0 (r + 1) (by omega)
  have n2 := nn0 r (by omega)
  have n3 := nn0 (rs.length - r - 1) (by omega)
  have b1 : r + 1 + (rs.length - r - 1) ≤ 12 := by omega
  have b2 : r + (rs.length - r - 1) ≤ 12 := by omega
  refine ⟨fun g => absurd g n2, fun _ => ⟨fun _ => ⟨n1, n2, n3, b1, b2, n1, n2, n3, b1, b2, n1, n2, n3, b1, b2, n1, n2, n3, b1, b2, hq _ ⟨⟨?_, ?_, ?_⟩, fun k hk => ?_, ?_⟩, rfl⟩, fun g => absurd ((leN (a := 0) (by omega) (by omega)).mpr (Nat.zero_le _)) g⟩⟩
  · rw [er_len hl, hI_s]
  · rw [er_len hl]
    omega
  · intro j y hy
    have hjl := All_lt hy
    rw [er_len hl] at hjl
    have rI : ∀ f, (f = 11 ∨ f = 13) → ∀ v : Nat → Int32, hI σ f 0 = v → hI (setI (cpL (cpI (cpL (cpI σ 11 0 (r + 1) 11 0 r (rs.length - r - 1)) 12 0 (r + 1) 12 0 r (rs.length - r - 1)) 13 0 (r + 1) 13 0 r (rs.length - r - 1)) 14 0 (r + 1) 14 0 r (rs.length - r - 1)) 8 0 2 (nI (rs.length - 1))) f 0 j = if r ≤ j then v (j + 1) else v j := by
      intro f hf v hv
      have k : ∀ w : Nat → Int32, (if r ≤ j ∧ j < r + (rs.length - r - 1) then w (r + 1 + (j - r)) else w j) = if r ≤ j then w (j + 1) else w j := by
        intro w
        by_cases c : r ≤ j
        · rw [if_pos ⟨c, by omega⟩, if_pos c, show r + 1 + (j - r) = j + 1 by omega]
        · rw [if_neg (fun z => c z.1), if_neg c]
      rcases hf with e | e
      · subst e
        rw [hI_f _ _ _ (by omega), hI_cpL, hI_cpf _ (by omega), hI_cpL, hI_cp, hv]
        exact k v
      · subst e
        rw [hI_f _ _ _ (by omega), hI_cpL, hI_cp, hI_cpL, hI_cpf _ (by omega), hv]
        exact k v
    have rL : ∀ f, (f = 12 ∨ f = 14) → ∀ v : Nat → Int64, hL σ f 0 = v → hL (setI (cpL (cpI (cpL (cpI σ 11 0 (r + 1) 11 0 r (rs.length - r - 1)) 12 0 (r + 1) 12 0 r (rs.length - r - 1)) 13 0 (r + 1) 13 0 r (rs.length - r - 1)) 14 0 (r + 1) 14 0 r (rs.length - r - 1)) 8 0 2 (nI (rs.length - 1))) f 0 j = if r ≤ j then v (j + 1) else v j := by
      intro f hf v hv
      have k : ∀ w : Nat → Int64, (if r ≤ j ∧ j < r + (rs.length - r - 1) then w (r + 1 + (j - r)) else w j) = if r ≤ j then w (j + 1) else w j := by
        intro w
        by_cases c : r ≤ j
        · rw [if_pos ⟨c, by omega⟩, if_pos c, show r + 1 + (j - r) = j + 1 by omega]
        · rw [if_neg (fun z => c z.1), if_neg c]
      rcases hf with e | e
      · subst e
        show hL (cpL (cpI (cpL (cpI σ 11 0 (r + 1) 11 0 r (rs.length - r - 1)) 12 0 (r + 1) 12 0 r (rs.length - r - 1)) 13 0 (r + 1) 13 0 r (rs.length - r - 1)) 14 0 (r + 1) 14 0 r (rs.length - r - 1)) 12 0 j = _
        rw [hL_cpf _ (by omega), hL_cpI, hL_cp, hL_cpI, hv]
        exact k v
      · subst e
        show hL (cpL (cpI (cpL (cpI σ 11 0 (r + 1) 11 0 r (rs.length - r - 1)) 12 0 (r + 1) 12 0 r (rs.length - r - 1)) 13 0 (r + 1) 13 0 r (rs.length - r - 1)) 14 0 (r + 1) 14 0 r (rs.length - r - 1)) 14 0 j = _
        rw [hL_cp, hL_cpI, hL_cpf _ (by omega), hL_cpI, hv]
        exact k v
    rcases er_at hl hy with ⟨c, w⟩ | ⟨c, w⟩
    · have z := r3 j y w
      refine ⟨?_, ?_, ?_, ?_, z.2.2.2.2⟩
      · rw [rI 11 (by omega) _ rfl, if_neg (by omega)]; exact z.1
      · rw [rL 12 (by omega) _ rfl, if_neg (by omega)]; exact z.2.1
      · rw [rI 13 (by omega) _ rfl, if_neg (by omega)]; exact z.2.2.1
      · rw [rL 14 (by omega) _ rfl, if_neg (by omega)]; exact z.2.2.2.1
    · have z := r3 (j + 1) y w
      refine ⟨?_, ?_, ?_, ?_, z.2.2.2.2⟩
      · rw [rI 11 (by omega) _ rfl, if_pos c]; exact z.1
      · rw [rL 12 (by omega) _ rfl, if_pos c]; exact z.2.1
      · rw [rI 13 (by omega) _ rfl, if_pos c]; exact z.2.2.1
      · rw [rL 14 (by omega) _ rfl, if_pos c]; exact z.2.2.2.1
  · rw [hI_k _ _ _ _ hk, hI_cpL, hI_cpf _ (by omega), hI_cpL, hI_cpf _ (by omega)]
  · exact ((((Fr.rfl' SRd σ).cI (g := 11) ⟨rfl, by omega⟩).cL (g := 12) ⟨rfl, by omega⟩).cI (g := 13) ⟨rfl, by omega⟩).cL (g := 14) ⟨rfl, by omega⟩ |>.sI (f := 8) ⟨rfl, by omega⟩ _ _
end
