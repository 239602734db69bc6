/-! count -/
def countN (P : Nat → List Line) (X : Nat → XA) (rs : List (Pl × Pl)) (es : List En) (n u : Nat) (c : Int32) : Int32 := if c = nI 0 then srcB P 12 else if c = nI 1 then nI n else if c = nI 2 then nI rs.length else if c = nI 3 then nI es.length else if c = nI 4 then nI (sumP P (fun _ => 1) 12) else if c = nI 5 then nI (sumP P (fun k => if 2 ≤ knd P X rs k ∧ knd P X rs k ≤ 4 then 1 else 0) 12) else if c = nI 6 then nI u else (-2)
theorem countN_d {P : Nat → List Line} {X : Nat → XA} {rs : List (Pl × Pl)} {es : List En} {n u : Nat} {c : Int32} (h : c.toInt < 0 ∨ 6 < c.toInt) : countN P X rs es n u c = (-2) := by
  unfold countN
  rw [if_neg (fun e => by rw [e, nI_toInt (by omega)] at h; omega), if_neg (fun e => by rw [e, nI_toInt (by omega)] at h; omega), if_neg (fun e => by rw [e, nI_toInt (by omega)] at h; omega), if_neg (fun e => by rw [e, nI_toInt (by omega)] at h; omega), if_neg (fun e => by rw [e, nI_toInt (by omega)] at h; omega), if_neg (fun e => by rw [e, nI_toInt (by omega)] at h; omega), if_neg (fun e => by rw [e, nI_toInt (by omega)] at h; omega)]
theorem sumL_3 {f g h : Lk → Nat} (e : ∀ k, 1 = f k + g k + h k) (l : List Lk) : sumL (fun _ => 1) l = sumL f l + sumL g l + sumL h l := by
  induction l with
  | nil => rfl
  | cons k r ih =>
    show 1 + sumL (fun _ => 1) r = f k + sumL f r + (g k + sumL g r) + (h k + sumL h r)
    rw [ih]
    have := e k
    omega
theorem sumP_3 {P : Nat → List Line} {f g h : Lk → Nat} (e : ∀ k, 1 = f k + g k + h k) : ∀ n, sumP P (fun _ => 1) n = sumP P f n + sumP P g n + sumP P h n := by
  intro n
  induction n with
  | zero => rfl
  | succ n ih =>
    unfold sumP
    rw [ih, sumL_3 e]
    omega
section
variable {σ : Hp} {P : Nat → List Line} {X : Nat → XA} {rs : List (Pl × Pl)} {es : List En}
set_option maxRecDepth 6000 in
theorem e_count (d : Nat) (cs : CS σ P X rs es) (hP : gP P) {n u : Nat} (h1 : hI σ 1 0 1 = nI n) (h7 : hI σ 1 0 7 = nI u) (c : Int32) : PI (d + 4) 92 [vr 1 0, vi c] σ (countN P X rs es n u c) (fun h => Fr QF σ h) := by
  refine PI_of mt_92 (Nat.le_of_ble_eq_true rfl) fun Q hq => ?_
  have hq0 := hq σ (Fr.rfl' _ _)
  refine wp_ok (cut := []) ma_92 rfl 7 _ _ _ _ ?_
  show (((c = nI 0 → CalI true (d + 3) 61 [vr 8 0] σ σ.1 (fun x6 s5 => (Q (some (vi x6)) s5 ∧ s5.1 = σ.1))) ∧ ((c = nI 1 → (Q (some (vi (hI σ 1 0 1))) σ ∧ σ.1 = σ.1)) ∧ ((c = nI 2 → (Q (some (vi (hI σ 8 0 2))) σ ∧ σ.1 = σ.1)) ∧ ((c = nI 3 → (Q (some (vi (hI σ 8 0 7))) σ ∧ σ.1 = σ.1)) ∧ ((c = nI 4 → CalI true (d + 3) 101 [vr 1 0, vi (nI 0), vi (nI 4)] σ σ.1 (fun x4 s3 => (Q (some (vi x4)) s3 ∧ s3.1 = σ.1))) ∧ ((c = nI 5 → CalI true (d + 3) 101 [vr 1 0, vi (nI 2), vi (nI 4)] σ σ.1 (fun x2 s1 => (Q (some (vi x2)) s1 ∧ s1.1 = σ.1))) ∧ ((c = nI 6 → (Q (some (vi (hI σ 1 0 7))) σ ∧ σ.1 = σ.1)) ∧ True))))))) ∧ ((c.toInt < 0 ∨ 6 < c.toInt) → (Q (some (vi (-2))) σ ∧ σ.1 = σ.1)))
  rw [h1, h7, cs.2.2.2.1.1, cs.2.2.2.2.1]
  refine ⟨⟨fun e => cal_i (e_sources (d + 2) cs.1) rfl ⟨?_, rfl⟩, fun e => ⟨?_, rfl⟩, fun e => ⟨?_, rfl⟩, fun e => ⟨?_, rfl⟩, fun e => ?_, fun e => ?_, fun e => ⟨?_, rfl⟩, True.intro⟩, fun e => ⟨?_, rfl⟩⟩
  · rw [e] at hq0; exact hq0
  · rw [e] at hq0; exact hq0
  · rw [e] at hq0; exact hq0
  · rw [e] at hq0; exact hq0
  · rw [e] at hq
    refine cp_i (e_linksOfKinds d cs hP (a := 0) (b := 4) (by omega) (by omega)) rfl (fun h1 q1 e1 => ⟨?_, e1⟩)
    have hq := hq h1 q1
    have hq : Q (some (vi (nI (sumP P (fun _ => 1) 12)))) h1 := hq
    rw [sumP_ext (g := fun k => if 0 ≤ knd P X rs k ∧ knd P X rs k ≤ 4 then 1 else 0) (fun k => ?_)] at hq
    · exact hq
    · have k4 : knd P X rs k ≤ 4 := rtRun_k P X rs (k.1, k.2.1)
      rw [if_pos (by omega)]
  · rw [e] at hq
    exact cp_i (e_linksOfKinds d cs hP (a := 2) (b := 4) (by omega) (by omega)) rfl (fun h1 q1 e1 => ⟨hq h1 q1, e1⟩)
  · rw [e] at hq0; exact hq0
  · rw [countN_d e] at hq0
    exact hq0
set_option maxRecDepth 6000 in
theorem m_count (d : Nat) (ms : MS σ P X rs es) {n u : Nat} (h1 : hI σ 233 0 1 = nI n) (h4 : hI σ 233 0 4 = nI u) (c : Int32) : PI (d + 10) 202 [vr 233 0, vi c] σ (countN P X rs es n u c) (fun h => MS h P X rs es ∧ FrM SQ σ h) := by
  refine PI_of mt_202 (Nat.le_of_ble_eq_true rfl) fun Q hq => ?_
  refine wp_ok (cut := []) ma_202 rfl 15 _ _ _ _ ?_
  show CalV true (d + 9) 157 [vr 233 0] σ σ.1 (fun s1 => (((c = nI 0 → CalI true (d + 9) 141 [vr 233 0] s1 σ.1 (fun x13 s12 => (Q (some (vi x13)) s12 ∧ s12.1 = σ.1))) ∧ ((c = nI 1 → (Q (some (vi (hI s1 233 0 1))) s1 ∧ s1.1 = σ.1)) ∧ ((c = nI 2 → CalI true (d + 9) 166 [vr 233 0] s1 σ.1 (fun x11 s10 => (Q (some (vi x11)) s10 ∧ s10.1 = σ.1))) ∧ ((c = nI 3 → (vp_in (nI 2829) 2830 ∧ (Q (some (vi (hI s1 235 0 2829))) s1 ∧ s1.1 = σ.1))) ∧ ((c = nI 4 → CalI true (d + 9) 203 [vr 233 0] s1 σ.1 (fun x9 s8 => (Q (some (vi x9)) s8 ∧ s8.1 = σ.1))) ∧ ((c = nI 5 → CalI true (d + 9) 203 [vr 233 0] s1 σ.1 (fun x3 s2 => CalI true (d + 9) 181 [vr 233 0, vi (nI 0)] s2 σ.1 (fun x5 s4 => CalI true (d + 9) 181 [vr 233 0, vi (nI 1)] s4 σ.1 (fun x7 s6 => (Q (some (vi ((x3 - x5) - x7))) s6 ∧ s6.1 = σ.1))))) ∧ ((c = nI 6 → (Q (some (vi (hI s1 233 0 4))) s1 ∧ s1.1 = σ.1)) ∧ True))))))) ∧ ((c.toInt < 0 ∨ 6 < c.toInt) → (Q (some (vi (-2))) s1 ∧ s1.1 = σ.1))))
  refine cp_v (m_lay (d + 4) ms) rfl (fun g1 q1 e1 => ?_)
  have fq : FrM SQ σ g1 := q1.2.2.mo fun f k w => Or.inl w
  have hq0 := hq g1 ⟨q1.1, fq⟩
  have z1 : hI g1 233 0 1 = nI n := by rw [q1.2.2.2.2.2 233 0 1 (fun w => by have w := w.2; unfold SLay at w; omega)]; exact h1
  have z4 : hI g1 233 0 4 = nI u := by rw [q1.2.2.2.2.2 233 0 4 (fun w => by have w := w.2; unfold SLay at w; omega)]; exact h4
  have all := m_linksOfAll (X := X) (d + 9) ms.1 q1.2.1
  rw [z1, z4, q1.1.2.2.2.2.2.1]
  refine ⟨⟨fun e => cal_i (m_sources (d + 7) q1.1.2.2.1) e1 ⟨?_, e1⟩, fun e => ⟨?_, e1⟩, fun e => cal_i (m_turns (d + 9) q1.1.2.2.2.2.1.1) e1 ⟨?_, e1⟩, fun e => ⟨inb (by omega) (by omega), ?_, e1⟩, fun e => cal_i all e1 ⟨?_, e1⟩, fun e => cal_i all e1 ?_, fun e => ⟨?_, e1⟩, True.intro⟩, fun e => ⟨?_, e1⟩⟩
  · rw [e] at hq0; exact hq0
  · rw [e] at hq0; exact hq0
  · rw [e] at hq0; exact hq0
  · rw [e] at hq0; exact hq0
  · rw [e] at hq0; exact hq0
  · rw [e] at hq
    refine cp_i (m_tallyOf d q1.1 (nI 0)) e1 (fun g2 q2 e2 => cp_i (m_tallyOf d q2.1 (nI 1)) e2 (fun g3 q3 e3 => ⟨?_, e3⟩))
    have hq := hq g3 ⟨q3.1, (fq.tr q2.2.2.1).tr q3.2.2.1⟩
    have hq : Q (some (vi (nI (sumP P (fun k => if 2 ≤ knd P X rs k ∧ knd P X rs k ≤ 4 then 1 else 0) 12)))) g3 := hq
    have s3 := sumP_3 (P := P) (f := fun k => if nI (knd P X rs k) = nI 0 then 1 else 0) (g := fun k => if nI (knd P X rs k) = nI 1 then 1 else 0) (h := fun k => if 2 ≤ knd P X rs k ∧ knd P X rs k ≤ 4 then 1 else 0) (fun k => by
      have k4 : knd P X rs k ≤ 4 := rtRun_k P X rs (k.1, k.2.1)
      show 1 = (if nI (knd P X rs k) = nI 0 then 1 else 0) + (if nI (knd P X rs k) = nI 1 then 1 else 0) + (if 2 ≤ knd P X rs k ∧ knd P X rs k ≤ 4 then 1 else 0)
      have n0 : nI (knd P X rs k) = nI 0 ↔ knd P X rs k = 0 := eqN (by omega) (by omega)
      have n1 : nI (knd P X rs k) = nI 1 ↔ knd P X rs k = 1 := eqN (by omega) (by omega)
      by_cases a0 : knd P X rs k = 0
      · rw [if_pos (n0.mpr a0), if_neg (fun w => by have := n1.mp w; omega), if_neg (by omega)]
      · rw [if_neg (fun w => a0 (n0.mp w))]
        by_cases a1 : knd P X rs k = 1
        · rw [if_pos (n1.mpr a1), if_neg (by omega)]
        · rw [if_neg (fun w => a1 (n1.mp w)), if_pos (by omega)]) 12
    rw [s3, subN (by omega), subN (by omega)]
    rw [show sumP P (fun k => if nI (knd P X rs k) = nI 0 then 1 else 0) 12 + sumP P (fun k => if nI (knd P X rs k) = nI 1 then 1 else 0) 12 + sumP P (fun k => if 2 ≤ knd P X rs k ∧ knd P X rs k ≤ 4 then 1 else 0) 12 - sumP P (fun k => if nI (knd P X rs k) = nI 0 then 1 else 0) 12 - sumP P (fun k => if nI (knd P X rs k) = nI 1 then 1 else 0) 12 = sumP P (fun k => if 2 ≤ knd P X rs k ∧ knd P X rs k ≤ 4 then 1 else 0) 12 by omega]
    exact hq
  · rw [e] at hq0; exact hq0
  · rw [countN_d e] at hq0
    exact hq0
end
