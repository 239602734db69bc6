/-! tallyOf, tally, linksOfAll -/
def tallyV (P : Nat → List Line) (X : Nat → XA) (rs : List (Pl × Pl)) (c : Int32) : Int32 := if rngI c 5 then nI (sumP P (fun k => if nI (knd P X rs k) = c then 1 else 0) 12) else (-2)
def usK (P : Nat → List Line) (X : Nat → XA) (rs : List (Pl × Pl)) (q : Nat) (k : Lk) : Nat := usN q (rtRun P X rs (k.1, k.2.1)).2.2.2
theorem sumL_ext {f g : Lk → Nat} {l : List Lk} (h : ∀ k, f k = g k) : sumL f l = sumL g l := by
  rw [show f = g from funext h]
theorem sumP_ext {P : Nat → List Line} {f g : Lk → Nat} (h : ∀ k, f k = g k) (n : Nat) : sumP P f n = sumP P g n := by
  rw [show f = g from funext h]
section
variable {σ : Hp} {P : Nat → List Line} {X : Nat → XA} {rs : List (Pl × Pl)} {es : List En}
theorem e_tally (d : Nat) (cs : CS σ P X rs es) (hP : gP P) (c : Int32) : PI (d + 4) 84 [vr 1 0, vi c] σ (tallyV P X rs c) (fun h => Fr QF σ h) := by
  refine PI_of mt_84 (Nat.le_of_ble_eq_true rfl) fun Q hq => ?_
  unfold tallyV at hq
  refine wp_ok (cut := []) ma_84 rfl 10 _ _ _ _ ?_
  show ((c < 0 → (Q (some (vi (-2))) σ ∧ σ.1 = σ.1)) ∧ (¬ c < 0 → ((c ≤ (nI 4) → CalI true (d + 3) 101 [vr 1 0, vi c, vi c] σ σ.1 (fun x2 s1 => (Q (some (vi x2)) s1 ∧ s1.1 = σ.1))) ∧ (¬ c ≤ (nI 4) → (Q (some (vi (-2))) σ ∧ σ.1 = σ.1)))))
  refine ⟨fun g1 => ?_, fun g1 => ⟨fun g2 => ?_, fun g2 => ?_⟩⟩
  · rw [rng_lo g1] at hq
    exact ⟨hq σ (Fr.rfl' _ _), rfl⟩
  · have rb := rng_in (m := 4) (by omega) g1 g2
    rw [if_pos rb] at hq
    obtain ⟨i, hi, rfl⟩ := rngI_t (by omega) rb
    refine cp_i (e_linksOfKinds d cs hP (a := i) (b := i) (by omega) (by omega)) rfl (fun h1 q1 e1 => ⟨?_, e1⟩)
    have hq := hq h1 q1
    rw [sumP_ext (g := fun k => if i ≤ knd P X rs k ∧ knd P X rs k ≤ i then 1 else 0) (fun k => ?_)] at hq
    · exact hq
    · have k4 : knd P X rs k ≤ 4 := rtRun_k P X rs (k.1, k.2.1)
      by_cases w : knd P X rs k = i
      · rw [if_pos (by rw [w]), if_pos (by omega)]
      · rw [if_neg (fun z => w ((eqN (by omega) (by omega)).mp z)), if_neg (by omega)]
  · rw [rng_hi (by omega) g2] at hq
    exact ⟨hq σ (Fr.rfl' _ _), rfl⟩
/-- behind questions about many links -/
def TlQ (σ h : Hp) (P : Nat → List Line) (X : Nat → XA) (rs : List (Pl × Pl)) (es : List En) (u : Nat → Nat) : Prop := MS h P X rs es ∧ LdX h P X ∧ FrM SQ σ h ∧ ∀ q, q < 12 → hI h 262 0 q = hI σ 262 0 q + nI (u q)
set_option maxRecDepth 6000 in
theorem m_tallyOf (d : Nat) (ms : MS σ P X rs es) (c : Int32) : PI (d + 9) 181 [vr 233 0, vi c] σ (nI (sumP P (fun k => if nI (knd P X rs k) = c then 1 else 0) 12)) (fun h => TlQ σ h P X rs es (fun q => sumP P (usK P X rs q) 12)) := by
  refine PI_of mt_181 (Nat.le_of_ble_eq_true rfl) fun Q hq => ?_
  have inner : ∀ (p : Nat), p < 12 → (∀ h, TlQ σ h P X rs es (fun q => sumP P (usK P X rs q) (p + 1)) → Sat true (d + 9) 181 σ.1 Q 8 [some (vr 233 0), some (vi c), some (vi (nI (sumP P (fun k => if nI (knd P X rs k) = c then 1 else 0) (p + 1)))), some (vi (nI (p + 1))), none] [] h) → ∀ (t a : List Lk) (h : Hp), lkPg p 0 (P p) = a ++ t → TlQ σ h P X rs es (fun q => sumP P (usK P X rs q) p + sumL (usK P X rs q) a) → Sat true (d + 9) 181 σ.1 Q 17 [some (vr 233 0), some (vi c), some (vi (nI (sumP P (fun k => if nI (knd P X rs k) = c then 1 else 0) p + sumL (fun k => if nI (knd P X rs k) = c then 1 else 0) a))), some (vi (nI p)), some (vi (nI a.length))] [] h := by
    intro p hp kq t
    induction t with
    | nil =>
      intro a h e hf
      rw [List.append_nil] at e
      have h8 : hI h 253 0 p = nI a.length := by rw [(hf.2.1.2 p hp).1.2.2.2.2.2.1, e]
      rw [← e] at hf
      have k1 := kq h hf
      unfold sumP at k1
      rw [e] at k1
      refine wp_ok (cut := [8, 17]) ma_181 rfl 21 _ _ _ _ ?_
      show (vp_in (nI p) 12 ∧ (((hI h 253 0 ((nI p).toNatClampNeg)) ≤ (nI a.length) → Sat true (d + 9) 181 σ.1 Q 8 [some (vr 233 0), some (vi c), some (vi (nI (sumP P (fun k => if nI (knd P X rs k) = c then 1 else 0) p + sumL (fun k => if nI (knd P X rs k) = c then 1 else 0) a))), some (vi ((nI p) + nI 1)), some (vi (nI a.length))] [] h) ∧ (¬ (hI h 253 0 ((nI p).toNatClampNeg)) ≤ (nI a.length) → CalV true (d + 8) 177 [vr 233 0, vi (nI p), vi (nI a.length)] h σ.1 (fun s1 => ((¬ (hI s1 233 0 36) = c → Sat true (d + 9) 181 σ.1 Q 17 [some (vr 233 0), some (vi c), some (vi ((nI (sumP P (fun k => if nI (knd P X rs k) = c then 1 else 0) p + sumL (fun k => if nI (knd P X rs k) = c then 1 else 0) a)) + (nI 0))), some (vi (nI p)), some (vi ((nI a.length) + nI 1))] [] s1) ∧ ((hI s1 233 0 36) = c → Sat true (d + 9) 181 σ.1 Q 17 [some (vr 233 0), some (vi c), some (vi ((nI (sumP P (fun k => if nI (knd P X rs k) = c then 1 else 0) p + sumL (fun k => if nI (knd P X rs k) = c then 1 else 0) a)) + (nI 1))), some (vi (nI p)), some (vi ((nI a.length) + nI 1))] [] s1))))))
      rw [ix (by omega), h8, addN]
      exact ⟨inb hp (by omega), fun _ => Sat_no 4 k1, fun g => absurd (Int32.le_refl _) g⟩
    | cons k t ih =>
      intro a h e hf
      have hk : (lkPg p 0 (P p))[a.length]? = some k := by rw [e, List.getElem?_append_right (Nat.le_refl _), Nat.sub_self]; rfl
      have hl : (lkPg p 0 (P p)).length = a.length + (t.length + 1) := by rw [e, List.length_append, List.length_cons]
      have h8 : hI h 253 0 p = nI (a.length + (t.length + 1)) := by rw [(hf.2.1.2 p hp).1.2.2.2.2.2.1, hl]
      have b42 := (bds ms.1 hp).2
      refine wp_ok (cut := [8, 17]) ma_181 rfl 21 _ _ _ _ ?_
      show (vp_in (nI p) 12 ∧ (((hI h 253 0 ((nI p).toNatClampNeg)) ≤ (nI a.length) → Sat true (d + 9) 181 σ.1 Q 8 [some (vr 233 0), some (vi c), some (vi (nI (sumP P (fun k => if nI (knd P X rs k) = c then 1 else 0) p + sumL (fun k => if nI (knd P X rs k) = c then 1 else 0) a))), some (vi ((nI p) + nI 1)), some (vi (nI a.length))] [] h) ∧ (¬ (hI h 253 0 ((nI p).toNatClampNeg)) ≤ (nI a.length) → CalV true (d + 8) 177 [vr 233 0, vi (nI p), vi (nI a.length)] h σ.1 (fun s1 => ((¬ (hI s1 233 0 36) = c → Sat true (d + 9) 181 σ.1 Q 17 [some (vr 233 0), some (vi c), some (vi ((nI (sumP P (fun k => if nI (knd P X rs k) = c then 1 else 0) p + sumL (fun k => if nI (knd P X rs k) = c then 1 else 0) a)) + (nI 0))), some (vi (nI p)), some (vi ((nI a.length) + nI 1))] [] s1) ∧ ((hI s1 233 0 36) = c → Sat true (d + 9) 181 σ.1 Q 17 [some (vr 233 0), some (vi c), some (vi ((nI (sumP P (fun k => if nI (knd P X rs k) = c then 1 else 0) p + sumL (fun k => if nI (knd P X rs k) = c then 1 else 0) a)) + (nI 1))), some (vi (nI p)), some (vi ((nI a.length) + nI 1))] [] s1))))))
      rw [ix (by omega), h8, addN, addN, addN, addN]
      refine ⟨inb hp (by omega), br_le (by omega) (by omega) (fun g => by omega) (fun _ => cp_v (m_resolve d hf.1 hp hk) hf.2.2.1.1 (fun h1 q1 e1 => ?_))⟩
      have nx := ih (a ++ [k]) h1 (by rw [e, List.append_assoc]; rfl) ⟨q1.1, q1.2.1, hf.2.2.1.tr q1.2.2.2, fun q hq => by
        rw [q1.2.2.1.2.2.2.2.2.1 q hq, hf.2.2.2 q hq, Int32.add_assoc, addN]
        show _ + nI (sumP P (usK P X rs q) p + sumL (usK P X rs q) a + _) = _ + nI (sumP P (usK P X rs q) p + sumL (usK P X rs q) (a ++ [k]))
        rw [sumL_sn, ← Nat.add_assoc]
        rfl⟩
      rw [sumL_sn, List.length_append, ← Nat.add_assoc] at nx
      have w0 : hI h1 233 0 36 = nI (knd P X rs k) := q1.2.2.1.1
      rw [w0]
      refine ⟨fun g => ?_, fun g => ?_⟩
      · rw [if_neg g] at nx
        exact nx
      · rw [if_pos g] at nx
        exact nx
  have outer : ∀ (m p : Nat) (h : Hp), p + m = 12 → TlQ σ h P X rs es (fun q => sumP P (usK P X rs q) p) → Sat true (d + 9) 181 σ.1 Q 8 [some (vr 233 0), some (vi c), some (vi (nI (sumP P (fun k => if nI (knd P X rs k) = c then 1 else 0) p))), some (vi (nI p)), none] [] h := by
    intro m
    induction m with
    | zero =>
      intro p h hp hf
      have hp : p = 12 := hp
      subst hp
      refine wp_ok (cut := [8, 17]) ma_181 rfl 5 _ _ _ _ ?_
      show (((nI 12) ≤ (nI 12) → (Q (some (vi (nI (sumP P (fun k => if nI (knd P X rs k) = c then 1 else 0) 12)))) h ∧ h.1 = σ.1)) ∧ (¬ (nI 12) ≤ (nI 12) → Sat true (d + 9) 181 σ.1 Q 17 [some (vr 233 0), some (vi c), some (vi (nI (sumP P (fun k => if nI (knd P X rs k) = c then 1 else 0) 12))), some (vi (nI 12)), some (vi (nI 0))] [] h))
      exact ⟨fun _ => ⟨hq h hf, hf.2.2.1.1⟩, fun g => absurd (Int32.le_refl _) g⟩
    | succ m ih =>
      intro p h hp hf
      refine wp_ok (cut := [8, 17]) ma_181 rfl 5 _ _ _ _ ?_
      show (((nI 12) ≤ (nI p) → (Q (some (vi (nI (sumP P (fun k => if nI (knd P X rs k) = c then 1 else 0) p)))) h ∧ h.1 = σ.1)) ∧ (¬ (nI 12) ≤ (nI p) → Sat true (d + 9) 181 σ.1 Q 17 [some (vr 233 0), some (vi c), some (vi (nI (sumP P (fun k => if nI (knd P X rs k) = c then 1 else 0) p))), some (vi (nI p)), some (vi (nI 0))] [] h))
      exact br_le (by omega) (by omega) (fun g => by omega) (fun _ => inner p (by omega) (fun h2 f2 => ih (p + 1) h2 (by omega) f2) _ [] h rfl hf)
  refine wp_ok (cut := [8]) ma_181 rfl 6 _ _ _ _ ?_
  show CalV true (d + 8) 157 [vr 233 0] σ σ.1 (fun s1 => Sat true (d + 9) 181 σ.1 Q 8 [some (vr 233 0), some (vi c), some (vi (nI 0)), some (vi (nI 0)), none] [] s1)
  refine cp_v (m_lay (d + 3) ms) rfl (fun h1 q1 e1 => outer 12 0 h1 (by omega) ⟨q1.1, q1.2.1, q1.2.2.mo fun f k w => Or.inl w, fun q hq => ?_⟩)
  rw [q1.2.2.2.2.2 262 0 q (fun w => by have w := w.2; unfold SLay at w; omega)]
  show _ = _ + nI 0
  rw [show nI 0 = (0 : Int32) from rfl, Int32.add_zero]
theorem m_tally (d : Nat) (ms : MS σ P X rs es) (c : Int32) : PI (d + 10) 182 [vr 233 0, vi c] σ (tallyV P X rs c) (fun h => MS h P X rs es ∧ FrM SQ σ h) := by
  refine PI_of mt_182 (Nat.le_of_ble_eq_true rfl) fun Q hq => ?_
  unfold tallyV at hq
  refine wp_ok (cut := []) ma_182 rfl 10 _ _ _ _ ?_
  show CalI true (d + 9) 108 [vi c, vi (nI 0), vi (nI 4)] σ σ.1 (fun x2 s1 => ((x2 = 0 → (Q (some (vi (-2))) s1 ∧ s1.1 = σ.1)) ∧ (¬ x2 = 0 → CalI true (d + 9) 181 [vr 233 0, vi c] s1 σ.1 (fun x4 s3 => (Q (some (vi x4)) s3 ∧ s3.1 = σ.1)))))
  refine cal_i (m_inR (d + 9) σ c (m := 4) (by omega)) rfl (brI (fun g => ?_) (fun g => ?_))
  · rw [g] at hq
    exact ⟨hq σ ⟨ms, FrM.rfl' _ _⟩, rfl⟩
  · rw [if_pos g] at hq
    exact cp_i (m_tallyOf d ms c) rfl (fun h1 q1 e1 => ⟨hq h1 ⟨q1.1, q1.2.2.1⟩, e1⟩)
theorem m_linksOfAll (d : Nat) (hP : gP P) (ld : LdX σ P X) : EI d 203 [vr 233 0] σ (nI (sumP P (fun _ => 1) 12)) σ := by
  refine EI_of mt_203 (Nat.le_of_ble_eq_true rfl) fun Q hq => ?_
  have one : ∀ l : List Lk, sumL (fun _ => 1) l = l.length := by
    intro l
    induction l with
    | nil => rfl
    | cons k r ih => show 1 + sumL _ r = r.length + 1; rw [ih]; omega
  have loop : ∀ (m p : Nat), p + m = 12 → Sat true d 203 σ.1 Q 4 [some (vr 233 0), some (vi (nI (sumP P (fun _ => 1) p))), some (vi (nI p))] [] σ := by
    intro m
    induction m with
    | zero =>
      intro p hp
      have hp : p = 12 := hp
      subst hp
      refine wp_ok (cut := [4]) ma_203 rfl 12 _ _ _ _ ?_
      show (((nI 12) ≤ (nI 12) → (Q (some (vi (nI (sumP P (fun _ => 1) 12)))) σ ∧ σ.1 = σ.1)) ∧ (¬ (nI 12) ≤ (nI 12) → (vp_in (nI 12) 12 ∧ Sat true d 203 σ.1 Q 4 [some (vr 233 0), some (vi ((nI (sumP P (fun _ => 1) 12)) + (hI σ 253 0 12))), some (vi ((nI 12) + nI 1))] [] σ)))
      exact ⟨fun _ => ⟨hq, rfl⟩, fun g => absurd (Int32.le_refl _) g⟩
    | succ m ih =>
      intro p hp
      have nx := ih (p + 1) (by omega)
      unfold sumP at nx
      rw [one] at nx
      refine wp_ok (cut := [4]) ma_203 rfl 12 _ _ _ _ ?_
      show (((nI 12) ≤ (nI p) → (Q (some (vi (nI (sumP P (fun _ => 1) p)))) σ ∧ σ.1 = σ.1)) ∧ (¬ (nI 12) ≤ (nI p) → (vp_in (nI p) 12 ∧ Sat true d 203 σ.1 Q 4 [some (vr 233 0), some (vi ((nI (sumP P (fun _ => 1) p)) + (hI σ 253 0 ((nI p).toNatClampNeg)))), some (vi ((nI p) + nI 1))] [] σ)))
      rw [ix (by omega), (ld.2 p (by omega)).1.2.2.2.2.2.1, addN, addN]
      exact br_le (by omega) (by omega) (fun g => by omega) (fun _ => ⟨inb (by omega) (by omega), nx⟩)
  refine wp_ok (cut := [4]) ma_203 rfl 4 _ _ _ _ ?_
  show Sat true d 203 σ.1 Q 4 [some (vr 233 0), some (vi (nI 0)), some (vi (nI 0))] [] σ
  exact loop 12 0 (by omega)
end
