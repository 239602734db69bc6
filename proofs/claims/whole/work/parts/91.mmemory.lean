/-! memory: the model's alike, and both calls -/
section
variable {σ : Hp} {P : Nat → List Line} {X : Nat → XA} {rs : List (Pl × Pl)} {es : List En}
theorem m_alike (d : Nat) (ms : MS σ P X rs es) {g : Nat} (hg : g < 1000003) : PI (d + 6) 185 [vr 233 0, vi (nI g)] σ (nI (alN P X g 12)) (fun h => MS h P X rs es ∧ LdX h P X ∧ FrM SLay σ h) := by
  refine PI_of mt_185 (Nat.le_of_ble_eq_true rfl) fun Q hq => ?_
  refine wp_ok (cut := [8]) ma_185 rfl 6 _ _ _ _ ?_
  show CalV true (d + 5) 157 [vr 233 0] σ σ.1 (fun s1 => Sat true (d + 6) 185 σ.1 Q 8 [some (vr 233 0), some (vi (nI g)), some (vi (nI 0)), some (vi (nI 0)), none] [] s1)
  refine cp_v (m_lay d ms) rfl (fun h1 q1 e1 => ?_)
  have hq := hq h1 q1
  have inner : ∀ (p : Nat), p < 12 → Sat true (d + 6) 185 σ.1 Q 8 [some (vr 233 0), some (vi (nI g)), some (vi (nI (alN P X g (p + 1)))), some (vi (nI (p + 1))), none] [] h1 → ∀ (m j : Nat), j + m = (secs (P p)).length → Sat true (d + 6) 185 σ.1 Q 17 [some (vr 233 0), some (vi (nI g)), some (vi (nI (alN P X g p + cnB (scF P X g p) j))), some (vi (nI p)), some (vi (nI j))] [] h1 := by
    intro p hp kq m
    obtain ⟨l1, l2, l3, l4, _⟩ := (q1.2.1.2 p hp).1
    have b54 := (bds ms.1 hp).1
    induction m with
    | zero =>
      intro j hj
      have hj : j = (secs (P p)).length := hj
      subst hj
      unfold alN at kq
      refine wp_ok (cut := [8, 17]) ma_185 rfl 32 _ _ _ _ ?_
      show (vp_in (nI p) 12 ∧ (((hI h1 247 0 ((nI p).toNatClampNeg)) ≤ (nI (secs (P p)).length) → Sat true (d + 6) 185 σ.1 Q 8 [some (vr 233 0), some (vi (nI g)), some (vi (nI (alN P X g p + cnB (scF P X g p) (secs (P p)).length))), some (vi ((nI p) + nI 1)), some (vi (nI (secs (P p)).length))] [] h1) ∧ (¬ (hI h1 247 0 ((nI p).toNatClampNeg)) ≤ (nI (secs (P p)).length) → (vp_in (((nI 54) * (nI p)) + (nI (secs (P p)).length)) 648 ∧ (((hI h1 249 0 ((((nI 54) * (nI p)) + (nI (secs (P p)).length)).toNatClampNeg)) < 0 → Sat true (d + 6) 185 σ.1 Q 17 [some (vr 233 0), some (vi (nI g)), some (vi ((nI (alN P X g p + cnB (scF P X g p) (secs (P p)).length)) + (nI 0))), some (vi (nI p)), some (vi ((nI (secs (P p)).length) + nI 1))] [] h1) ∧ (¬ (hI h1 249 0 ((((nI 54) * (nI p)) + (nI (secs (P p)).length)).toNatClampNeg)) < 0 → (vp_in (((nI 54) * (nI p)) + (nI (secs (P p)).length)) 648 ∧ ((¬ (hI h1 248 0 ((((nI 54) * (nI p)) + (nI (secs (P p)).length)).toNatClampNeg)) = (nI g) → Sat true (d + 6) 185 σ.1 Q 17 [some (vr 233 0), some (vi (nI g)), some (vi ((nI (alN P X g p + cnB (scF P X g p) (secs (P p)).length)) + (nI 0))), some (vi (nI p)), some (vi ((nI (secs (P p)).length) + nI 1))] [] h1) ∧ ((hI h1 248 0 ((((nI 54) * (nI p)) + (nI (secs (P p)).length)).toNatClampNeg)) = (nI g) → Sat true (d + 6) 185 σ.1 Q 17 [some (vr 233 0), some (vi (nI g)), some (vi ((nI (alN P X g p + cnB (scF P X g p) (secs (P p)).length)) + (nI 1))), some (vi (nI p)), some (vi ((nI (secs (P p)).length) + nI 1))] [] h1)))))))))
      rw [ix (by omega), l3, addN]
      exact ⟨inb hp (by omega), fun _ => Sat_no 4 kq, fun g => absurd (Int32.le_refl _) g⟩
    | succ m ih =>
      intro j hj
      have hjl : j < (secs (P p)).length := by omega
      have hs : (secs (P p))[j]? = some (secs (P p))[j] := List.getElem?_eq_getElem hjl
      obtain ⟨sx1, sx2, sx3⟩ := l4 j _ hs
      have dg := sec_dg ms.1 hs
      have nx := ih (j + 1) (by omega)
      have ef : scF P X g p j = decide (hoF (fun _ => (-6)) 0 (X p).2.2.1 j ≠ (-6) ∧ (secs (P p))[j].2 = g) := by
        unfold scF
        rw [hs]
      unfold cnB at nx
      have no : ¬ (hoF (fun _ => (-6)) 0 (X p).2.2.1 j ≠ (-6) ∧ (secs (P p))[j].2 = g) → Sat true (d + 6) 185 σ.1 Q 17 [some (vr 233 0), some (vi (nI g)), some (vi (nI (alN P X g p + cnB (scF P X g p) j + 0))), some (vi (nI p)), some (vi (nI (j + 1)))] [] h1 := by
        intro c
        rw [ef, if_neg (by rw [decide_eq_false c]; exact Bool.false_ne_true), Nat.zero_add] at nx
        exact nx
      refine wp_ok (cut := [8, 17]) ma_185 rfl 32 _ _ _ _ ?_
      show (vp_in (nI p) 12 ∧ (((hI h1 247 0 ((nI p).toNatClampNeg)) ≤ (nI j) → Sat true (d + 6) 185 σ.1 Q 8 [some (vr 233 0), some (vi (nI g)), some (vi (nI (alN P X g p + cnB (scF P X g p) j))), some (vi ((nI p) + nI 1)), some (vi (nI j))] [] h1) ∧ (¬ (hI h1 247 0 ((nI p).toNatClampNeg)) ≤ (nI j) → (vp_in (((nI 54) * (nI p)) + (nI j)) 648 ∧ (((hI h1 249 0 ((((nI 54) * (nI p)) + (nI j)).toNatClampNeg)) < 0 → Sat true (d + 6) 185 σ.1 Q 17 [some (vr 233 0), some (vi (nI g)), some (vi ((nI (alN P X g p + cnB (scF P X g p) j)) + (nI 0))), some (vi (nI p)), some (vi ((nI j) + nI 1))] [] h1) ∧ (¬ (hI h1 249 0 ((((nI 54) * (nI p)) + (nI j)).toNatClampNeg)) < 0 → (vp_in (((nI 54) * (nI p)) + (nI j)) 648 ∧ ((¬ (hI h1 248 0 ((((nI 54) * (nI p)) + (nI j)).toNatClampNeg)) = (nI g) → Sat true (d + 6) 185 σ.1 Q 17 [some (vr 233 0), some (vi (nI g)), some (vi ((nI (alN P X g p + cnB (scF P X g p) j)) + (nI 0))), some (vi (nI p)), some (vi ((nI j) + nI 1))] [] h1) ∧ ((hI h1 248 0 ((((nI 54) * (nI p)) + (nI j)).toNatClampNeg)) = (nI g) → Sat true (d + 6) 185 σ.1 Q 17 [some (vr 233 0), some (vi (nI g)), some (vi ((nI (alN P X g p + cnB (scF P X g p) j)) + (nI 1))), some (vi (nI p)), some (vi ((nI j) + nI 1))] [] h1)))))))))
      rw [ix (by omega), l3, mulN, addN, addN, addN, addN, addN, ix (by omega), sx3, sx2, hoF_neg (ms.2.1 p hp).2]
      have i1 : vp_in (nI (54 * p + j)) 648 := inb (by omega) (by omega)
      refine ⟨inb hp (by omega), br_le (by omega) (by omega) (fun g => by omega) (fun _ => ⟨i1, fun w => no (fun c => c.1 w), fun w => ⟨i1, br_ne (by omega) (by omega) (fun g2 => no (fun c => g2 c.2)) (fun g2 => ?_)⟩⟩)⟩
      rw [ef, if_pos (decide_eq_true ⟨w, g2⟩), show alN P X g p + (1 + cnB (scF P X g p) j) = alN P X g p + cnB (scF P X g p) j + 1 by omega] at nx
      exact nx
  have outer : ∀ (m p : Nat), p + m = 12 → Sat true (d + 6) 185 σ.1 Q 8 [some (vr 233 0), some (vi (nI g)), some (vi (nI (alN P X g p))), some (vi (nI p)), none] [] h1 := by
    intro m
    induction m with
    | zero =>
      intro p hp
      have hp : p = 12 := hp
      subst hp
      refine wp_ok (cut := [8, 17]) ma_185 rfl 5 _ _ _ _ ?_
      show (((nI 12) ≤ (nI 12) → (Q (some (vi (nI (alN P X g 12)))) h1 ∧ h1.1 = σ.1)) ∧ (¬ (nI 12) ≤ (nI 12) → Sat true (d + 6) 185 σ.1 Q 17 [some (vr 233 0), some (vi (nI g)), some (vi (nI (alN P X g 12))), some (vi (nI 12)), some (vi (nI 0))] [] h1))
      exact ⟨fun _ => ⟨hq, e1⟩, fun g => absurd (Int32.le_refl _) g⟩
    | succ m ih =>
      intro p hp
      refine wp_ok (cut := [8, 17]) ma_185 rfl 5 _ _ _ _ ?_
      show (((nI 12) ≤ (nI p) → (Q (some (vi (nI (alN P X g p)))) h1 ∧ h1.1 = σ.1)) ∧ (¬ (nI 12) ≤ (nI p) → Sat true (d + 6) 185 σ.1 Q 17 [some (vr 233 0), some (vi (nI g)), some (vi (nI (alN P X g p))), some (vi (nI p)), some (vi (nI 0))] [] h1))
      exact br_le (by omega) (by omega) (fun g => by omega) (fun _ => inner p (by omega) (ih (p + 1) (by omega)) (secs (P p)).length 0 (by omega))
  exact outer 12 0 (by omega)
set_option maxRecDepth 6000 in
theorem e_memory (d : Nat) (cs : CS σ P X rs es) (hP : gP P) (a b : Int32) : PI (d + 2) 86 [vr 1 0, vi a, vi b] σ (memV P X es a b) (fun h => Fr QF σ h) := by
  refine PI_of mt_86 (Nat.le_of_ble_eq_true rfl) fun Q hq => ?_
  unfold memV at hq
  have hq0 := hq σ (Fr.rfl' _ _)
  have ens := cs.2.2.2.2
  have h40 := ens.2.1
  refine wp_ok (cut := []) ma_86 rfl 29 _ _ _ _ ?_
  show ((b < 0 → (Q (some (vi (-2))) σ ∧ σ.1 = σ.1)) ∧ (¬ b < 0 → ((b ≤ (nI 3) → ((¬ a = (-1) → ((a < 0 → (Q (some (vi (-6))) σ ∧ σ.1 = σ.1)) ∧ (¬ a < 0 → ((a < (hI σ 8 0 7) → (((b = nI 0 → (vp_in a 40 ∧ (Q (some (vi (hI σ 15 0 a.toNatClampNeg))) σ ∧ σ.1 = σ.1))) ∧ ((b = nI 1 → (vp_in a 40 ∧ (Q (some (vi (hI σ 17 0 a.toNatClampNeg))) σ ∧ σ.1 = σ.1))) ∧ ((b = nI 2 → (vp_in a 40 ∧ CalI true (d + 1) 5 [vl (hL σ 16 0 a.toNatClampNeg), vr 4 0, vi (nI 0)] σ σ.1 (fun x2 s1 => (Q (some (vi x2)) s1 ∧ s1.1 = σ.1)))) ∧ True))) ∧ ((b.toInt < 0 ∨ 2 < b.toInt) → (vp_in a 40 ∧ CalI true (d + 1) 54 [vr 7 0, vi (hI σ 17 0 a.toNatClampNeg)] σ σ.1 (fun x4 s3 => (Q (some (vi x4)) s3 ∧ s3.1 = σ.1)))))) ∧ (¬ a < (hI σ 8 0 7) → (Q (some (vi (-6))) σ ∧ σ.1 = σ.1)))))) ∧ (a = (-1) → (Q (some (vi (hI σ 8 0 7))) σ ∧ σ.1 = σ.1)))) ∧ (¬ b ≤ (nI 3) → (Q (some (vi (-2))) σ ∧ σ.1 = σ.1)))))
  rw [ens.1]
  refine ⟨fun g1 => ?_, fun g1 => ⟨fun g2 => ⟨fun w => ⟨fun g3 => ?_, fun g3 => ⟨fun g4 => ?_, fun g4 => ?_⟩⟩, fun w => ?_⟩, fun g2 => ?_⟩⟩
  · rw [rng_lo g1] at hq0
    exact ⟨hq0, rfl⟩
  · rw [if_pos (rng_in (m := 3) (by omega) g1 g2), if_neg w, rng_lo g3] at hq0
    exact ⟨hq0, rfl⟩
  · have rb := rng_in (m := 3) (by omega) g1 g2
    have ra : rngI a es.length = true := decide_eq_true ⟨not_ltI g3, g4⟩
    rw [if_pos rb, if_neg w, if_pos ra] at hq hq0
    obtain ⟨e, he, rfl⟩ := rngI_t (by omega) ra
    have hy : es[e]? = some es[e] := List.getElem?_eq_getElem he
    rw [ix (by omega), hy] at hq hq0
    have hq : ∀ h, Fr QF σ h → Q (some (vi (memN P X es[e] b.toNatClampNeg))) h := hq
    have hq0 : Q (some (vi (memN P X es[e] b.toNatClampNeg))) σ := hq0
    obtain ⟨y1, y2, y3, y4, y5, y6⟩ := ens.2.2 e _ hy
    have i1 : vp_in (nI e) 40 := inb (by omega) (by omega)
    rw [ix (by omega), y1, y2, y3]
    refine ⟨⟨fun z => ⟨i1, ?_, rfl⟩, fun z => ⟨i1, ?_, rfl⟩, fun z => ⟨i1, ?_⟩, True.intro⟩, fun z => ⟨i1, cal_i (e_sectionsWith (d + 1) cs hP y6) rfl ⟨?_, rfl⟩⟩⟩
    · rw [z, ix (by omega)] at hq0; exact hq0
    · rw [z, ix (by omega)] at hq0; exact hq0
    · rw [z, ix (by omega)] at hq
      have sp := e_spell4 d σ (o := some es[e].2.1) (fun x hx => by cases hx; exact y5) (b := 0) (by have := (txAnc_le2 y5).2; show 0 + (txAnc es[e].2.1).length ≤ 11; omega)
      exact cal_i sp rfl ⟨hq _ (Fr_wr (Fr.rfl' QF σ) (Or.inl rfl)), rfl⟩
    · obtain ⟨i, hi, rfl⟩ := rngI_t (by omega) rb
      rw [nI_toInt (by omega)] at z
      have h3 : i = 3 := by omega
      rw [h3, ix (by omega)] at hq0
      exact hq0
  · rw [if_pos (rng_in (m := 3) (by omega) g1 g2), if_neg w, if_neg (fun z => g4 (of_decide_eq_true z).2)] at hq0
    exact ⟨hq0, rfl⟩
  · rw [if_pos (rng_in (m := 3) (by omega) g1 g2), if_pos w] at hq0
    exact ⟨hq0, rfl⟩
  · rw [rng_hi (by omega) g2] at hq0
    exact ⟨hq0, rfl⟩
set_option maxRecDepth 6000 in
theorem m_memory (d : Nat) (ms : MS σ P X rs es) (a b : Int32) : PI (d + 7) 186 [vr 233 0, vi a, vi b] σ (memV P X es a b) (fun h => MS h P X rs es ∧ FrM SQ σ h) := by
  refine PI_of mt_186 (Nat.le_of_ble_eq_true rfl) fun Q hq => ?_
  unfold memV at hq
  have hq0 := hq σ ⟨ms, FrM.rfl' _ _⟩
  have ens := ms.2.2.2.2.2
  have h40 := ens.2.1
  refine wp_ok (cut := []) ma_186 rfl 37 _ _ _ _ ?_
  show CalI true (d + 6) 108 [vi b, vi (nI 0), vi (nI 3)] σ σ.1 (fun x2 s1 => ((¬ x2 = 0 → ((¬ a = (-1) → (vp_in (nI 2829) 2830 ∧ CalI true (d + 6) 108 [vi a, vi (nI 0), vi ((hI s1 235 0 2829) - (nI 1))] s1 σ.1 (fun x4 s3 => ((¬ x4 = 0 → ((¬ b = (nI 3) → (vp_in (((nI 2269) + ((nI 14) * a)) + b) 2830 ∧ (Q (some (vi (hI s3 235 0 ((((nI 2269) + ((nI 14) * a)) + b).toNatClampNeg)))) s3 ∧ s3.1 = σ.1))) ∧ (b = (nI 3) → (vp_in (((nI 2269) + ((nI 14) * a)) + (nI 1)) 2830 ∧ CalI true (d + 6) 185 [vr 233 0, vi (hI s3 235 0 ((((nI 2269) + ((nI 14) * a)) + (nI 1)).toNatClampNeg))] s3 σ.1 (fun x6 s5 => (Q (some (vi x6)) s5 ∧ s5.1 = σ.1)))))) ∧ (x4 = 0 → (Q (some (vi (-6))) s3 ∧ s3.1 = σ.1)))))) ∧ (a = (-1) → (vp_in (nI 2829) 2830 ∧ (Q (some (vi (hI s1 235 0 2829))) s1 ∧ s1.1 = σ.1))))) ∧ (x2 = 0 → (Q (some (vi (-2))) s1 ∧ s1.1 = σ.1))))
  refine cal_i (m_inR (d + 6) σ b (m := 3) (by omega)) rfl (brN (fun g => ?_) (fun g => ?_))
  · rw [if_pos g] at hq hq0
    rw [ens.1]
    refine ⟨fun w => ⟨inb (by omega) (by omega), cal_i (m_inN (d + 6) σ a (by omega)) rfl (brN (fun ra => ?_) (fun ra => ?_))⟩, fun w => ⟨inb (by omega) (by omega), ?_, rfl⟩⟩
    · rw [if_neg w, if_pos ra] at hq hq0
      obtain ⟨e, he, rfl⟩ := rngI_t (by omega) ra
      have hy : es[e]? = some es[e] := List.getElem?_eq_getElem he
      rw [ix (by omega), hy] at hq hq0
      have hq : ∀ h, (MS h P X rs es ∧ FrM SQ σ h) → Q (some (vi (memN P X es[e] b.toNatClampNeg))) h := hq
      have hq0 : Q (some (vi (memN P X es[e] b.toNatClampNeg))) σ := hq0
      obtain ⟨y1, y2, y3, y4, y5, y6⟩ := ens.2.2 e _ hy
      obtain ⟨i, hi, rfl⟩ := rngI_t (by omega) g
      rw [ix (by omega)] at hq hq0
      rw [mulN, addN, addN, addN]
      refine br_ne (by omega) (by omega) (fun g3 => ⟨inb (by omega) (by omega), ?_, rfl⟩) (fun g3 => ⟨inb (by omega) (by omega), ?_⟩)
      · rw [ix (by omega)]
        have h3 : i = 0 ∨ i = 1 ∨ i = 2 := by omega
        rcases h3 with z | z | z
        · subst z
          rw [Nat.add_zero, y1]
          exact hq0
        · subst z
          rw [y2]
          exact hq0
        · subst z
          rw [y3.1]
          exact hq0
      · subst g3
        rw [ix (by omega), y2]
        exact cp_i (m_alike d ms y6) rfl (fun h1 q1 e1 => ⟨hq h1 ⟨q1.1, q1.2.2.mo fun f k w => Or.inl w⟩, e1⟩)
    · rw [if_neg w, if_neg (fun z => by rw [ra] at z; cases z)] at hq0
      exact ⟨hq0, rfl⟩
    · rw [if_pos w] at hq0
      exact hq0
  · rw [if_neg (fun z => by rw [g] at z; cases z)] at hq0
    exact ⟨hq0, rfl⟩
end
