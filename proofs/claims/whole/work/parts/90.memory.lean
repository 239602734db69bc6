/-! memory: sectionsWith, alike, and both calls -/
def scF (P : Nat → List Line) (X : Nat → XA) (g p j : Nat) : Bool := match (secs (P p))[j]? with
  | none => false
  | some s => decide (hoF (fun _ => (-6)) 0 (X p).2.2.1 j ≠ (-6) ∧ s.2 = g)
def alN (P : Nat → List Line) (X : Nat → XA) (g : Nat) : Nat → Nat
  | 0 => 0
  | p + 1 => alN P X g p + cnB (scF P X g p) (secs (P p)).length
theorem hoF_c : ∀ (hs : List Hd) (u : Nat → Int32) (k j : Nat), hoF u k hs j = u j ∨ ∃ i, i < hs.length ∧ hoF u k hs j = nI (k + i) := by
  intro hs
  induction hs with
  | nil => intro u k j; exact Or.inl rfl
  | cons x r ih =>
    intro u k j
    show hoF (hOf u x.2.2.2 k) (k + 1) r j = u j ∨ ∃ i, i < r.length + 1 ∧ hoF (hOf u x.2.2.2 k) (k + 1) r j = nI (k + i)
    rcases ih (hOf u x.2.2.2 k) (k + 1) j with h | ⟨i, h1, h2⟩
    · cases e : x.2.2.2 with
      | none =>
        rw [e] at h
        exact Or.inl h
      | some s =>
        rw [e] at h
        have h : hoF (upd u s (nI k)) (k + 1) r j = upd u s (nI k) j := h
        show hoF (upd u s (nI k)) (k + 1) r j = u j ∨ ∃ i, i < r.length + 1 ∧ hoF (upd u s (nI k)) (k + 1) r j = nI (k + i)
        rw [h]
        unfold upd
        by_cases c : j = s
        · exact Or.inr ⟨0, by omega, by rw [if_pos c]; rfl⟩
        · exact Or.inl (if_neg c)
    · exact Or.inr ⟨i + 1, by omega, by rw [h2, show k + 1 + i = k + (i + 1) by omega]⟩
theorem hoF_neg {hs : List Hd} (hl : hs.length ≤ 100) (j : Nat) : (hoF (fun _ => (-6)) 0 hs j < 0 ↔ hoF (fun _ => (-6)) 0 hs j = (-6)) := by
  refine neg6x (n := 100) (by omega) ?_
  rcases hoF_c hs (fun _ => (-6)) 0 j with h | ⟨i, h1, h2⟩
  · exact Or.inl h
  · exact Or.inr ⟨i, by omega, by rw [h2, Nat.zero_add]⟩
def memN (P : Nat → List Line) (X : Nat → XA) (y : En) : Nat → Int32
  | 0 => nI y.1
  | 1 => nI y.2.2
  | 2 => nI (txAnc y.2.1).length
  | _ => nI (alN P X y.2.2 12)
def enO (o : Option En) (f : En → Int32) : Int32 := match o with
  | none => 0
  | some y => f y
def memV (P : Nat → List Line) (X : Nat → XA) (es : List En) (a b : Int32) : Int32 := if rngI b 4 then (if a = (-1) then nI es.length else if rngI a es.length then enO es[a.toNatClampNeg]? (fun y => memN P X y b.toNatClampNeg) else (-6)) else (-2)
section
variable {σ : Hp} {P : Nat → List Line} {X : Nat → XA} {rs : List (Pl × Pl)} {es : List En}
theorem sec_dg (hP : gP P) {p j : Nat} {s : Nat × Nat} (hs : (secs (P p))[j]? = some s) : s.2 < 1000003 := (secs_bd (List.mem_of_getElem? hs)).2
theorem e_sectionsWith (d : Nat) (cs : CS σ P X rs es) (hP : gP P) {g : Nat} (hg : g < 1000003) : EI d 54 [vr 7 0, vi (nI g)] σ (nI (alN P X g 12)) σ := by
  refine EI_of mt_54 (Nat.le_of_ble_eq_true rfl) fun Q hq => ?_
  have inner : ∀ (p : Nat), p < 12 → Sat true d 54 σ.1 Q 4 [some (vr 7 0), some (vi (nI g)), some (vi (nI (alN P X g (p + 1)))), some (vi (nI (p + 1))), none, none] [] σ → ∀ (m j : Nat), j + m = (secs (P p)).length → Sat true d 54 σ.1 Q 13 [some (vr 7 0), some (vi (nI g)), some (vi (nI (alN P X g p + cnB (scF P X g p) j))), some (vi (nI p)), some (vi (nI j)), none] [] σ := by
    intro p hp kq m
    have oc := (cs.2.1 p hp).1
    have b54 := (bds hP hp).1
    have b1 := nHd_b (hP p hp).1
    have b2 := (hP p hp).2
    have en : (secs (P p)).length = 0 + nHd (P p) := secs_len (P p) []
    induction m with
    | zero =>
      intro j hj
      have hj : j = (secs (P p)).length := hj
      subst hj
      unfold alN at kq
      refine wp_ok (cut := [4, 13]) ma_54 rfl 33 _ _ _ _ ?_
      show (vp_in (nI p) 12 ∧ ((nI p).toNatClampNeg < 12 ∧ (((hI σ 21 ((nI p).toNatClampNeg) 13) ≤ (nI (secs (P p)).length) → Sat true d 54 σ.1 Q 4 [some (vr 7 0), some (vi (nI g)), some (vi (nI (alN P X g p + cnB (scF P X g p) (secs (P p)).length))), some (vi ((nI p) + nI 1)), some (vi (nI (secs (P p)).length)), none] [] σ) ∧ (¬ (hI σ 21 ((nI p).toNatClampNeg) 13) ≤ (nI (secs (P p)).length) → (vp_in (nI p) 12 ∧ ((nI p).toNatClampNeg < 12 ∧ ((nI p).toNatClampNeg < 12 ∧ (vp_in (nI (secs (P p)).length) 53 ∧ (((hI σ 37 ((nI p).toNatClampNeg) ((nI (secs (P p)).length).toNatClampNeg)) = (-6) → (((nI 0) = 0 → Sat true d 54 σ.1 Q 13 [some (vr 7 0), some (vi (nI g)), some (vi (nI (alN P X g p + cnB (scF P X g p) (secs (P p)).length))), some (vi (nI p)), some (vi ((nI (secs (P p)).length) + nI 1)), some (vi (nI 0))] [] σ) ∧ (¬ (nI 0) = 0 → (vp_in (nI p) 12 ∧ ((nI p).toNatClampNeg < 12 ∧ ((nI p).toNatClampNeg < 12 ∧ (vp_in (nI (secs (P p)).length) 53 ∧ ((¬ (hI σ 31 ((nI p).toNatClampNeg) ((nI (secs (P p)).length).toNatClampNeg)) = (nI g) → Sat true d 54 σ.1 Q 13 [some (vr 7 0), some (vi (nI g)), some (vi (nI (alN P X g p + cnB (scF P X g p) (secs (P p)).length))), some (vi (nI p)), some (vi ((nI (secs (P p)).length) + nI 1)), some (vi (nI 0))] [] σ) ∧ ((hI σ 31 ((nI p).toNatClampNeg) ((nI (secs (P p)).length).toNatClampNeg)) = (nI g) → Sat true d 54 σ.1 Q 13 [some (vr 7 0), some (vi (nI g)), some (vi ((nI (alN P X g p + cnB (scF P X g p) (secs (P p)).length)) + nI 1)), some (vi (nI p)), some (vi ((nI (secs (P p)).length) + nI 1)), some (vi (nI 0))] [] σ))))))))) ∧ (¬ (hI σ 37 ((nI p).toNatClampNeg) ((nI (secs (P p)).length).toNatClampNeg)) = (-6) → (((nI 1) = 0 → Sat true d 54 σ.1 Q 13 [some (vr 7 0), some (vi (nI g)), some (vi (nI (alN P X g p + cnB (scF P X g p) (secs (P p)).length))), some (vi (nI p)), some (vi ((nI (secs (P p)).length) + nI 1)), some (vi (nI 1))] [] σ) ∧ (¬ (nI 1) = 0 → (vp_in (nI p) 12 ∧ ((nI p).toNatClampNeg < 12 ∧ ((nI p).toNatClampNeg < 12 ∧ (vp_in (nI (secs (P p)).length) 53 ∧ ((¬ (hI σ 31 ((nI p).toNatClampNeg) ((nI (secs (P p)).length).toNatClampNeg)) = (nI g) → Sat true d 54 σ.1 Q 13 [some (vr 7 0), some (vi (nI g)), some (vi (nI (alN P X g p + cnB (scF P X g p) (secs (P p)).length))), some (vi (nI p)), some (vi ((nI (secs (P p)).length) + nI 1)), some (vi (nI 1))] [] σ) ∧ ((hI σ 31 ((nI p).toNatClampNeg) ((nI (secs (P p)).length).toNatClampNeg)) = (nI g) → Sat true d 54 σ.1 Q 13 [some (vr 7 0), some (vi (nI g)), some (vi ((nI (alN P X g p + cnB (scF P X g p) (secs (P p)).length)) + nI 1)), some (vi (nI p)), some (vi ((nI (secs (P p)).length) + nI 1)), some (vi (nI 1))] [] σ))))))))))))))))))
      rw [ix (by omega), oc.2.2.2.2.2.1, addN]
      exact ⟨inb hp (by omega), hp, fun _ => Sat_no 4 kq, fun g => absurd (Int32.le_refl _) g⟩
    | succ m ih =>
      intro j hj
      have hjl : j < (secs (P p)).length := by omega
      have hs : (secs (P p))[j]? = some (secs (P p))[j] := List.getElem?_eq_getElem hjl
      have sr := oc.2.2.2.2.2.2 j _ hs
      have ho := (cs.2.2.1 p hp).2.2.2.1 j (by omega)
      have dg := sec_dg hP hs
      have nx := ih (j + 1) (by omega)
      have ef : scF P X g p j = decide (hoF (fun _ => (-6)) 0 (X p).2.2.1 j ≠ (-6) ∧ (secs (P p))[j].2 = g) := by
        unfold scF
        rw [hs]
      have i1 : vp_in (nI p) 12 := inb hp (by omega)
      have i2 : vp_in (nI j) 53 := inb (by omega) (by omega)
      have no : ¬ (hoF (fun _ => (-6)) 0 (X p).2.2.1 j ≠ (-6) ∧ (secs (P p))[j].2 = g) → ∀ x5 : Int32, Sat true d 54 σ.1 Q 13 [some (vr 7 0), some (vi (nI g)), some (vi (nI (alN P X g p + cnB (scF P X g p) j))), some (vi (nI p)), some (vi (nI (j + 1))), some (vi x5)] [] σ := by
        intro c x5
        unfold cnB at nx
        rw [ef, if_neg (by rw [decide_eq_false c]; exact Bool.false_ne_true), Nat.zero_add] at nx
        exact Sat_no 5 nx
      refine wp_ok (cut := [4, 13]) ma_54 rfl 33 _ _ _ _ ?_
      show (vp_in (nI p) 12 ∧ ((nI p).toNatClampNeg < 12 ∧ (((hI σ 21 ((nI p).toNatClampNeg) 13) ≤ (nI j) → Sat true d 54 σ.1 Q 4 [some (vr 7 0), some (vi (nI g)), some (vi (nI (alN P X g p + cnB (scF P X g p) j))), some (vi ((nI p) + nI 1)), some (vi (nI j)), none] [] σ) ∧ (¬ (hI σ 21 ((nI p).toNatClampNeg) 13) ≤ (nI j) → (vp_in (nI p) 12 ∧ ((nI p).toNatClampNeg < 12 ∧ ((nI p).toNatClampNeg < 12 ∧ (vp_in (nI j) 53 ∧ (((hI σ 37 ((nI p).toNatClampNeg) ((nI j).toNatClampNeg)) = (-6) → (((nI 0) = 0 → Sat true d 54 σ.1 Q 13 [some (vr 7 0), some (vi (nI g)), some (vi (nI (alN P X g p + cnB (scF P X g p) j))), some (vi (nI p)), some (vi ((nI j) + nI 1)), some (vi (nI 0))] [] σ) ∧ (¬ (nI 0) = 0 → (vp_in (nI p) 12 ∧ ((nI p).toNatClampNeg < 12 ∧ ((nI p).toNatClampNeg < 12 ∧ (vp_in (nI j) 53 ∧ ((¬ (hI σ 31 ((nI p).toNatClampNeg) ((nI j).toNatClampNeg)) = (nI g) → Sat true d 54 σ.1 Q 13 [some (vr 7 0), some (vi (nI g)), some (vi (nI (alN P X g p + cnB (scF P X g p) j))), some (vi (nI p)), some (vi ((nI j) + nI 1)), some (vi (nI 0))] [] σ) ∧ ((hI σ 31 ((nI p).toNatClampNeg) ((nI j).toNatClampNeg)) = (nI g) → Sat true d 54 σ.1 Q 13 [some (vr 7 0), some (vi (nI g)), some (vi ((nI (alN P X g p + cnB (scF P X g p) j)) + nI 1)), some (vi (nI p)), some (vi ((nI j) + nI 1)), some (vi (nI 0))] [] σ))))))))) ∧ (¬ (hI σ 37 ((nI p).toNatClampNeg) ((nI j).toNatClampNeg)) = (-6) → (((nI 1) = 0 → Sat true d 54 σ.1 Q 13 [some (vr 7 0), some (vi (nI g)), some (vi (nI (alN P X g p + cnB (scF P X g p) j))), some (vi (nI p)), some (vi ((nI j) + nI 1)), some (vi (nI 1))] [] σ) ∧ (¬ (nI 1) = 0 → (vp_in (nI p) 12 ∧ ((nI p).toNatClampNeg < 12 ∧ ((nI p).toNatClampNeg < 12 ∧ (vp_in (nI j) 53 ∧ ((¬ (hI σ 31 ((nI p).toNatClampNeg) ((nI j).toNatClampNeg)) = (nI g) → Sat true d 54 σ.1 Q 13 [some (vr 7 0), some (vi (nI g)), some (vi (nI (alN P X g p + cnB (scF P X g p) j))), some (vi (nI p)), some (vi ((nI j) + nI 1)), some (vi (nI 1))] [] σ) ∧ ((hI σ 31 ((nI p).toNatClampNeg) ((nI j).toNatClampNeg)) = (nI g) → Sat true d 54 σ.1 Q 13 [some (vr 7 0), some (vi (nI g)), some (vi ((nI (alN P X g p + cnB (scF P X g p) j)) + nI 1)), some (vi (nI p)), some (vi ((nI j) + nI 1)), some (vi (nI 1))] [] σ))))))))))))))))))
      simp only [ix (show p < 2147483648 by omega), ix (show j < 2147483648 by omega), oc.2.2.2.2.2.1, ho, sr.2, addN, hp, true_and]
      refine ⟨i1, br_le (by omega) (by omega) (fun g => by omega) (fun _ => ⟨i1, i2, fun w => ⟨fun _ => no (fun c => c.1 w) _, fun z => absurd rfl z⟩, fun w => ⟨fun z => absurd z (by decide), fun _ => ⟨i1, i2, br_ne (by omega) (by omega) (fun g2 => no (fun c => g2 c.2) _) (fun g2 => ?_)⟩⟩⟩)⟩
      unfold cnB at nx
      rw [ef, if_pos (decide_eq_true ⟨w, g2⟩), show alN P X g p + (1 + cnB (scF P X g p) j) = alN P X g p + cnB (scF P X g p) j + 1 by omega] at nx
      exact Sat_no 5 nx
  have outer : ∀ (m p : Nat), p + m = 12 → Sat true d 54 σ.1 Q 4 [some (vr 7 0), some (vi (nI g)), some (vi (nI (alN P X g p))), some (vi (nI p)), none, none] [] σ := by
    intro m
    induction m with
    | zero =>
      intro p hp
      have hp : p = 12 := hp
      subst hp
      refine wp_ok (cut := [4, 13]) ma_54 rfl 5 _ _ _ _ ?_
      show (((nI 12) ≤ (nI 12) → (Q (some (vi (nI (alN P X g 12)))) σ ∧ σ.1 = σ.1)) ∧ (¬ (nI 12) ≤ (nI 12) → Sat true d 54 σ.1 Q 13 [some (vr 7 0), some (vi (nI g)), some (vi (nI (alN P X g 12))), some (vi (nI 12)), some (vi (nI 0)), none] [] σ))
      exact ⟨fun _ => ⟨hq, rfl⟩, fun g => absurd (Int32.le_refl _) g⟩
    | succ m ih =>
      intro p hp
      refine wp_ok (cut := [4, 13]) ma_54 rfl 5 _ _ _ _ ?_
      show (((nI 12) ≤ (nI p) → (Q (some (vi (nI (alN P X g p)))) σ ∧ σ.1 = σ.1)) ∧ (¬ (nI 12) ≤ (nI p) → Sat true d 54 σ.1 Q 13 [some (vr 7 0), some (vi (nI g)), some (vi (nI (alN P X g p))), some (vi (nI p)), some (vi (nI 0)), none] [] σ))
      exact br_le (by omega) (by omega) (fun g => by omega) (fun _ => inner p (by omega) (ih (p + 1) (by omega)) (secs (P p)).length 0 (by omega))
  refine wp_ok (cut := [4]) ma_54 rfl 4 _ _ _ _ ?_
  show Sat true d 54 σ.1 Q 4 [some (vr 7 0), some (vi (nI g)), some (vi (nI 0)), some (vi (nI 0)), none, none] [] σ
  exact outer 12 0 (by omega)
end
