/-! calls: redirect -/
section
variable {t : Nat → Nat} {n : Nat}
theorem sg_c (a m : Nat) : sg t a (m + 1) = t a :: sg t (a + 1) m := rfl
theorem pl_is {a b p : Nat} {x : Option Anc} (h : pPlace t n a = (true, b)) (r : Rd t n a b (txLink (some p) x)) (hp : p < 12) : t a = 65 + p ∧ plTx t n a = txO x := by
  obtain ⟨r1, r2, r3⟩ := r
  have hm : (mPlace t n a).2 = b := by
    have := (rel_place (t := t) (n := n) a).1
    rw [h] at this
    exact this.symm
  have e0 : txLink (some p) x = (65 + p) :: txOpt x := rfl
  rw [e0, List.length_cons] at r1 r2
  rw [sg_c] at r1
  have ta : t a = 65 + p := (List.cons.inj r1).1
  have rr : sg t (a + 1) (txOpt x).length = txOpt x := (List.cons.inj r1).2
  have hTB : pTB t n 65 76 a = (true, a + 1) := by
    unfold pTB
    rw [if_pos ⟨by omega, by omega, by omega⟩]
  refine ⟨ta, ?_⟩
  unfold plTx
  rw [hTB, hm]
  cases x with
  | none =>
    have eb : b = a + 1 := r2
    have : (pT t n 35 (a + 1)).1 = false := by
      cases c : (pT t n 35 (a + 1)).1 with
      | false => rfl
      | true =>
        unfold pPlace at h
        rw [hTB] at h
        have h : (if isN t n 35 (a + 1) then pAnchor t n (a + 1) else (true, a + 1)) = (true, b) := h
        rw [isN_T, c, if_pos rfl] at h
        obtain ⟨z, w, -⟩ := rd_Anchor h
        have := w.2.1
        rw [List.length_cons] at this
        omega
    rw [this]
    rfl
  | some z =>
    have e1 : txOpt (some z) = 35 :: txAnc z := rfl
    rw [e1, List.length_cons] at rr r2
    rw [sg_c] at rr
    have t1 : t (a + 1) = 35 := (List.cons.inj rr).1
    have t2 : sg t (a + 1 + 1) (txAnc z).length = txAnc z := (List.cons.inj rr).2
    have : (pT t n 35 (a + 1)).1 = true := by
      unfold pT pTB
      rw [if_pos ⟨by omega, by omega, by omega⟩]
    rw [this, show b - (a + 2) = (txAnc z).length by omega]
    exact t2
theorem redirect_of2 (h : redF t n = none) : ∃ (p q : Nat) (x y : Option Anc), p < 12 ∧ q < 12 ∧ gAO x ∧ gAO y ∧ sg t 0 n = txLink (some p) x ++ 62 :: txLink (some q) y ∧ t 0 = 65 + p ∧ plTx t n 0 = txO x ∧ t (redB t n) = 65 + q ∧ plTx t n (redB t n) = txO y := by
  unfold redF at h
  rcases h1 : pPlace t n 0 with ⟨c, a1⟩
  rw [h1] at h
  cases c with
  | false => cases h
  | true =>
    dsimp only at h
    obtain ⟨p, x, r1, l1, _, g1⟩ := rd_Place h1
    rcases h2 : pT t n 62 a1 with ⟨c, a2⟩
    rw [h2] at h
    cases c with
    | false => cases h
    | true =>
      dsimp only at h
      rcases h3 : pPlace t n a2 with ⟨c, a3⟩
      rw [h3] at h
      cases c with
      | false => cases h
      | true =>
        dsimp only at h
        obtain ⟨q, y, r3, l3, _, g3⟩ := rd_Place h3
        have hm : (mPlace t n 0).2 = a1 := by
          have := (rel_place (t := t) (n := n) 0).1
          rw [h1] at this
          exact this.symm
        have eb : redB t n = a2 := by
          have w : a2 = a1 + [62].length := (rd_T h2).2.1
          have w : a2 = a1 + 1 := w
          unfold redB
          rw [hm, w]
        split at h
        · rename_i e
          subst e
          have w := r1.app ((rd_T h2).app r3)
          obtain ⟨s1, s2⟩ := pl_is h1 r1 l1
          obtain ⟨s3, s4⟩ := pl_is h3 r3 l3
          refine ⟨p, q, x, y, l1, l3, g1, g3, ?_, s1, s2, by rw [eb]; exact s3, by rw [eb]; exact s4⟩
          obtain ⟨w1, w2, _⟩ := w
          rw [Nat.zero_add] at w2
          rw [w2]
          exact w1
        · cases h
theorem redF_6 (hn : n ≤ 160) : fI (redF t n) = (-6) ↔ redF t n = none := fI_6 hn fun b h => by
  unfold redF at h
  have l1 := pPlace_le (t := t) (n := n) (a := 0) (Nat.zero_le _)
  rcases h1 : pPlace t n 0 with ⟨c, a1⟩
  rw [h1] at h l1
  have l1 : a1 ≤ n := l1
  cases c with
  | false => cases h; exact l1
  | true =>
    dsimp only at h
    have l2 := pT_le (t := t) (x := 62) l1
    rcases h2 : pT t n 62 a1 with ⟨c, a2⟩
    rw [h2] at h l2
    have l2 : a2 ≤ n := l2
    cases c with
    | false => cases h; exact l2
    | true =>
      dsimp only at h
      have l3 := pPlace_le (t := t) (n := n) l2
      rcases h3 : pPlace t n a2 with ⟨c, a3⟩
      rw [h3] at h l3
      have l3 : a3 ≤ n := l3
      cases c with
      | false => cases h; exact l3
      | true =>
        dsimp only at h
        split at h
        · cases h
        · cases h; exact l3
end
theorem txLink_62 {l : Option Nat} {a : Option Anc} (hl : ∀ p, l = some p → p < 12) (ha : gAO a) : ∀ y ∈ txLink l a, y < 128 ∧ y ≠ 62 := fun y hy => by
  rcases List.mem_append.mp hy with h | h
  · cases l with
    | none => cases h
    | some p =>
      have := hl p rfl
      cases h with
      | head => omega
      | tail _ w => cases w
  · cases a with
    | none => cases h
    | some z =>
      cases h with
      | head => omega
      | tail _ w =>
        have := txAnc_s (ha z rfl) y w
        omega
theorem e_arrow (d : Nat) {σ : Hp} {n : Nat} {w v : List Nat} (ht : Tx (hI σ 2 0) 0 (w ++ 62 :: v)) (hy : ∀ y ∈ w, y < 128 ∧ y ≠ 62) (hn : n = w.length + 1 + v.length) (hv : 1 ≤ v.length) (h160 : n ≤ 160) (h1 : hI σ 1 0 1 = nI n) : EI d 99 [vr 1 0] σ (nI w.length) σ := by
  refine EI_of mt_99 (Nat.le_of_ble_eq_true rfl) fun Q hq => ?_
  have loop : ∀ (b a : List Nat), w = a ++ b → Sat true d 99 σ.1 Q 2 [some (vr 1 0), some (vi (nI a.length))] [] σ := by
    intro b
    induction b with
    | nil =>
      intro a e
      rw [List.append_nil] at e
      subst e
      have e2 : hI σ 2 0 w.length = nI 62 := by
        have := (Tx_app.mp ht).2.1
        rw [Nat.zero_add] at this
        exact this
      refine wp_ok (cut := [2]) ma_99 rfl 14 _ _ _ _ ?_
      show ((((hI σ 1 0 1) - (nI 1)) ≤ (nI w.length) → (Q (some (vi (nI 0))) σ ∧ σ.1 = σ.1)) ∧ (¬ ((hI σ 1 0 1) - (nI 1)) ≤ (nI w.length) → (vp_in (nI w.length) 160 ∧ ((¬ (hI σ 2 0 ((nI w.length).toNatClampNeg)) = (nI 62) → Sat true d 99 σ.1 Q 2 [some (vr 1 0), some (vi ((nI w.length) + nI 1))] [] σ) ∧ ((hI σ 2 0 ((nI w.length).toNatClampNeg)) = (nI 62) → (Q (some (vi (nI w.length))) σ ∧ σ.1 = σ.1))))))
      rw [h1, subN (by omega), ix (by omega), e2]
      exact br_le (by omega) (by omega) (fun g => by omega) (fun _ => ⟨inb (by omega) (by omega), br_ne (by omega) (by omega) (fun g => absurd rfl g) (fun _ => ⟨hq, rfl⟩)⟩)
    | cons c b ih =>
      intro a e
      have hc := hy c (by rw [e]; exact List.mem_append.mpr (Or.inr List.mem_cons_self))
      have e2 : hI σ 2 0 a.length = nI c := by
        rw [e, List.append_assoc] at ht
        have := (Tx_app.mp ht).2.1
        rw [Nat.zero_add] at this
        exact this
      have hl : w.length = a.length + (b.length + 1) := by rw [e, List.length_append, List.length_cons]
      have nx := ih (a ++ [c]) (by rw [List.append_assoc]; exact e)
      rw [List.length_append] at nx
      refine wp_ok (cut := [2]) ma_99 rfl 14 _ _ _ _ ?_
      show ((((hI σ 1 0 1) - (nI 1)) ≤ (nI a.length) → (Q (some (vi (nI 0))) σ ∧ σ.1 = σ.1)) ∧ (¬ ((hI σ 1 0 1) - (nI 1)) ≤ (nI a.length) → (vp_in (nI a.length) 160 ∧ ((¬ (hI σ 2 0 ((nI a.length).toNatClampNeg)) = (nI 62) → Sat true d 99 σ.1 Q 2 [some (vr 1 0), some (vi ((nI a.length) + nI 1))] [] σ) ∧ ((hI σ 2 0 ((nI a.length).toNatClampNeg)) = (nI 62) → (Q (some (vi (nI a.length))) σ ∧ σ.1 = σ.1))))))
      rw [h1, subN (by omega), ix (by omega), e2, addN]
      exact br_le (by omega) (by omega) (fun g => by omega) (fun _ => ⟨inb (by omega) (by omega), br_ne (by omega) (by omega) (fun g => nx) (fun g => absurd g hc.2)⟩)
  refine wp_ok (cut := [2]) ma_99 rfl 2 _ _ _ _ ?_
  show Sat true d 99 σ.1 Q 2 [some (vr 1 0), some (vi (nI 0))] [] σ
  exact loop w [] rfl
def badR (x y : Pl) (rs : List (Pl × Pl)) : Prop := rdO x rs 0 ≠ none ∨ x = y
theorem rdF_6 {x : Pl} {rs : List (Pl × Pl)} (hl : rs.length ≤ 12) : rdF x rs 0 = (-6) ↔ rdO x rs 0 = none := by
  rw [rdF_o]
  cases e : rdO x rs 0 with
  | none => exact ⟨fun _ => rfl, fun _ => rfl⟩
  | some q =>
    obtain ⟨k, y⟩ := q
    have := All_lt (rdO_0 e)
    exact ⟨fun w => absurd w (n6 (by omega)), fun w => by cases w⟩
theorem rdO_none {x : Pl} : ∀ {rs : List (Pl × Pl)} {i : Nat}, rdO x rs i = none ↔ ∀ z ∈ rs, z.1 ≠ x := by
  intro rs
  induction rs with
  | nil => intro i; exact ⟨fun _ z hz => (by cases hz), fun _ => rfl⟩
  | cons y r ih =>
    intro i
    unfold rdO
    by_cases c : y.1 = x
    · rw [if_pos c]
      exact ⟨fun w => (by cases w), fun w => absurd c (w y List.mem_cons_self)⟩
    · rw [if_neg c, ih]
      exact ⟨fun w z hz => by
        cases hz with
        | head => exact c
        | tail _ u => exact w z u, fun w z hz => w z (List.mem_cons_of_mem _ hz)⟩
