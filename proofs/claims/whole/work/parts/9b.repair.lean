/-! repair: the class and the model -/
def SA (f k : Nat) : Prop := SQ f k ∨ SRp f k
theorem ofF_le (b : Bs) (c pg : Nat) (hd : Int32) (an : Option Anc) : (ofF b c pg hd an).1 ≤ b.1 ∧ (ofF b c pg hd an).1 ≤ c := by
  unfold ofF
  split
  · exact ⟨by show c ≤ b.1; omega, Nat.le_refl _⟩
  · exact ⟨Nat.le_refl _, by omega⟩
theorem ofH_le (ls : List Line) (a : Anc) (dg : Option Nat) (p e : Nat) : ∀ (hs : List Hd) (j : Nat) (b : Bs), (ofH ls a dg p e hs j b).1 ≤ b.1 := by
  intro hs
  induction hs with
  | nil => intro j b; exact Nat.le_refl _
  | cons y r ih => intro j b; exact Nat.le_trans (ih _ _) (ofF_le _ _ _ _ _).1
theorem ofP_le (P : Nat → List Line) (X : Nat → XA) (x : Pl) (dg : Option Nat) (q : Nat) (b : Bs) : (ofP P X x dg q b).1 ≤ b.1 ∧ (P q ≠ [] → x.1 < 12 → q < 12 → (ofP P X x dg q b).1 < 1000) := by
  unfold ofP
  by_cases c : P q = []
  · rw [if_pos c]
    exact ⟨Nat.le_refl _, fun h => absurd c h⟩
  · rw [if_neg c]
    obtain ⟨x1, x2⟩ := x
    cases x2 with
    | none =>
      have h := ofF_le b (4 + (q - x1 + (x1 - q))) q (-6) none
      exact ⟨h.1, fun _ h1 h2 => by have h1 : x1 < 12 := h1; show (ofF b (4 + (q - x1 + (x1 - q))) q (-6) none).1 < 1000; omega⟩
    | some a =>
      have h := ofF_le b (6 + exN q x1) q (-6) none
      have h2 := ofH_le (P q) a dg q (exN q x1) (X q).2.2.1 0 (ofF b (6 + exN q x1) q (-6) none)
      have eN : exN q x1 ≤ 4 := by unfold exN; split <;> omega
      exact ⟨Nat.le_trans h2 h.1, fun _ _ _ => by show (ofH (P q) a dg q (exN q x1) (X q).2.2.1 0 (ofF b (6 + exN q x1) q (-6) none)).1 < 1000; omega⟩
theorem ofA_lt {P : Nat → List Line} {X : Nat → XA} {x : Pl} {dg : Option Nat} (hx : x.1 < 12) {p : Nat} (hp : p < 12) (hne : P p ≠ []) : (ofA P X x dg 12).1 < 1000 := by
  have g : ∀ n, p < n → n ≤ 12 → (ofA P X x dg n).1 < 1000 := by
    intro n
    induction n with
    | zero => intro h; omega
    | succ n ih =>
      intro h hn
      have le := ofP_le P X x dg n (ofA P X x dg n)
      by_cases c : p = n
      · rw [c] at hne
        exact le.2 hne hx (by omega)
      · exact Nat.lt_of_le_of_lt le.1 (ih (by omega) (by omega))
  exact g 12 hp (Nat.le_refl _)
theorem br_ng {P : Nat → List Line} {X : Nat → XA} {rs : List (Pl × Pl)} {k : Lk} (h : brB P X rs k = true) : rtGood P X (k.1, k.2.1) = false := by
  cases e : rtGood P X (k.1, k.2.1) with
  | false => rfl
  | true =>
    have w := of_decide_eq_true h
    have z : rtRun P X rs (k.1, k.2.1) = (if ([] : List Pl) = [] then 0 else 1, (k.1, k.2.1), rtHd X (k.1, k.2.1), []) := by
      unfold rtRun rtGo
      rw [if_neg (fun q => by cases q), if_pos e]
    rw [z] at w
    have w : 2 ≤ 0 := w
    omega
theorem lk_ne {p : Nat} {ls : List Line} {j : Nat} {k : Lk} (h : (lkPg p 0 ls)[j]? = some k) : ls ≠ [] := fun e => by
  rw [e] at h
  cases h
/-- the repair of a link -/
def repB (P : Nat → List Line) (X : Nat → XA) (es : List En) (k : Lk) : Bs := ofA P X (k.1, k.2.1) (enD (k.1, k.2.1) es) 12
def repN (b : Bs) : Nat → Int32
  | 0 => nI b.1
  | 1 => nI b.2.1
  | _ => b.2.2.1
def repairV (P : Nat → List Line) (X : Nat → XA) (rs : List (Pl × Pl)) (es : List En) (a b c : Int32) : Int32 := if lkB P a b then (if rngI c 3 then lkO (lkPg a.toNatClampNeg 0 (P a.toNatClampNeg))[b.toNatClampNeg]? (fun k => if brB P X rs k then repN (repB P X es k) c.toNatClampNeg else (-5)) else (-2)) else (-1)
section
variable {σ : Hp} {P : Nat → List Line} {X : Nat → XA} {rs : List (Pl × Pl)} {es : List En}
set_option maxRecDepth 6000 in
theorem e_repair (d : Nat) (cs : CS σ P X rs es) (hP : gP P) (hX : ∀ p, p < 12 → XFin P p (X p) ∧ (X p).2.2.1.length ≤ 100) (a b c : Int32) : PI (d + 5) 87 [vr 1 0, vi a, vi b, vi c] σ (repairV P X rs es a b c) (fun h => Fr QF σ h) := by
  refine PI_of mt_87 (Nat.le_of_ble_eq_true rfl) fun Q hq => ?_
  unfold repairV at hq
  have hq0 := hq σ (Fr.rfl' _ _)
  refine wp_ok (cut := []) ma_87 rfl 30 _ _ _ _ ?_
  show CalI true (d + 4) 95 [vr 1 0, vi a, vi b] σ σ.1 (fun x2 s1 => ((¬ x2 = 0 → ((c < 0 → (Q (some (vi (-2))) s1 ∧ s1.1 = σ.1)) ∧ (¬ c < 0 → ((c ≤ (nI 2) → CalI true (d + 4) 100 [vr 1 0, vi a, vi b] s1 σ.1 (fun x4 s3 => ((¬ x4 = 0 → (vp_in a 12 ∧ CalV true (d + 4) 16 [vr 229 0, vr 21 a.toNatClampNeg, vi b] s3 σ.1 (fun s5 => ((c = nI 0 → (Q (some (vi (hI s5 229 0 1))) s5 ∧ s5.1 = σ.1)) ∧ (¬ c = nI 0 → ((c = nI 1 → (Q (some (vi (hI s5 229 0 2))) s5 ∧ s5.1 = σ.1)) ∧ (¬ c = nI 1 → (Q (some (vi (hI s5 229 0 3))) s5 ∧ s5.1 = σ.1)))))))) ∧ (x4 = 0 → (Q (some (vi (-5))) s3 ∧ s3.1 = σ.1))))) ∧ (¬ c ≤ (nI 2) → (Q (some (vi (-2))) s1 ∧ s1.1 = σ.1)))))) ∧ (x2 = 0 → (Q (some (vi (-1))) s1 ∧ s1.1 = σ.1))))
  refine cal_i (e_isLink (d + 3) cs a b) rfl (brN (fun h => ?_) (fun h => ?_))
  · rw [if_pos h] at hq hq0
    obtain ⟨p, j, k, hp, rfl, rfl, hk, hj⟩ := lkB_t hP h
    rw [ix (by omega), ix (by omega), hk] at hq hq0
    rw [ix (by omega)]
    refine ⟨fun g1 => ?_, fun g1 => ⟨fun g2 => cp_i (e_isBroken (d + 1) cs hP hp hk) rfl (fun h1 q1 e1 => ?_), fun g2 => ?_⟩⟩
    · rw [rng_lo g1] at hq0
      exact ⟨hq0, rfl⟩
    · have rb := rng_in (m := 2) (by omega) g1 g2
      rw [if_pos rb] at hq
      have hq : ∀ h, Fr QF σ h → Q (some (vi (if brB P X rs k then repN (repB P X es k) c.toNatClampNeg else (-5)))) h := hq
      refine brN (fun g => ⟨inb hp (by omega), ?_⟩) (fun g => ?_)
      · rw [if_pos g] at hq
        refine cp_v (e_find d (CS_q (RF_QF q1.2) cs) hP hX hp hk) e1 (fun h2 q2 e2 => ?_)
        have hq := hq h2 ((RF_QF q1.2).tr q2.2)
        obtain ⟨m1, m2, m3, _⟩ := q2.1
        refine ⟨fun w => ⟨?_, e2⟩, fun w => ⟨fun w2 => ⟨?_, e2⟩, fun w2 => ⟨?_, e2⟩⟩⟩
        · rw [w, ix (by omega)] at hq; rw [m1]; exact hq
        · rw [w2, ix (by omega)] at hq; rw [m2]; exact hq
        · obtain ⟨i, hi, rfl⟩ := rngI_t (by omega) rb
          have i2 : i = 2 := by
            have : i ≠ 0 := fun e => w (by rw [e])
            have : i ≠ 1 := fun e => w2 (by rw [e])
            omega
          rw [i2, ix (by omega)] at hq
          rw [m3]
          exact hq
      · rw [if_neg (fun w => by rw [g] at w; cases w)] at hq
        exact ⟨hq h1 (RF_QF q1.2), e1⟩
    · rw [rng_hi (by omega) g2] at hq0
      exact ⟨hq0, rfl⟩
  · rw [if_neg (fun w => by rw [h] at w; cases w)] at hq0
    exact ⟨hq0, rfl⟩
set_option maxRecDepth 6000 in
theorem m_repair (d : Nat) (ms : MS σ P X rs es) (a b c : Int32) : PI (d + 10) 194 [vr 233 0, vi a, vi b, vi c] σ (repairV P X rs es a b c) (fun h => MS h P X rs es ∧ FrM SA σ h) := by
  refine PI_of mt_194 (Nat.le_of_ble_eq_true rfl) fun Q hq => ?_
  unfold repairV at hq
  refine wp_ok (cut := []) ma_194 rfl 28 _ _ _ _ ?_
  show CalI true (d + 9) 178 [vr 233 0, vi a, vi b] σ σ.1 (fun x2 s1 => ((¬ x2 = 0 → CalI true (d + 9) 108 [vi c, vi (nI 0), vi (nI 2)] s1 σ.1 (fun x4 s3 => ((¬ x4 = 0 → CalI true (d + 9) 193 [vr 233 0, vi a, vi b] s3 σ.1 (fun x6 s5 => ((¬ x6 = 0 → CalV true (d + 9) 192 [vr 233 0, vi a, vi b] s5 σ.1 (fun s7 => ((¬ c = 0 → ((¬ c = (nI 1) → (Q (some (vi (hI s7 233 0 41))) s7 ∧ s7.1 = σ.1)) ∧ (c = (nI 1) → (Q (some (vi (hI s7 233 0 40))) s7 ∧ s7.1 = σ.1)))) ∧ (c = 0 → (Q (some (vi (hI s7 233 0 39))) s7 ∧ s7.1 = σ.1))))) ∧ (x6 = 0 → (Q (some (vi (-5))) s5 ∧ s5.1 = σ.1))))) ∧ (x4 = 0 → (Q (some (vi (-2))) s3 ∧ s3.1 = σ.1))))) ∧ (x2 = 0 → (Q (some (vi (-1))) s1 ∧ s1.1 = σ.1))))
  refine cp_i (m_isLink (d + 3) ms a b) rfl (fun h1 q1 e1 => ?_)
  have f1 : FrM SA σ h1 := q1.2.2.mo fun f k w => Or.inl (Or.inl w)
  have hq0 := hq h1 ⟨q1.1, f1⟩
  refine brN (fun h => ?_) (fun h => ?_)
  · rw [if_pos h] at hq hq0
    obtain ⟨p, j, k, hp, rfl, rfl, hk, hj⟩ := lkB_t ms.1 h
    rw [ix (by omega), ix (by omega), hk] at hq hq0
    refine cal_i (m_inR (d + 9) h1 c (m := 2) (by omega)) e1 (brN (fun rb => ?_) (fun g => ?_))
    · rw [if_pos rb] at hq
      have hq : ∀ h, (MS h P X rs es ∧ FrM SA σ h) → Q (some (vi (if brB P X rs k then repN (repB P X es k) c.toNatClampNeg else (-5)))) h := hq
      refine cp_i (m_isBroken d q1.1 hp hk) e1 (fun h2 q2 e2 => ?_)
      have f2 : FrM SA σ h2 := f1.tr (q2.2.2.2.mo fun f k w => Or.inl w)
      refine brN (fun g => ?_) (fun g => ?_)
      · rw [if_pos g] at hq
        refine cp_v (m_layRepair (d + 3) q2.1 hp hk (br_ng g)) e2 (fun h3 q3 e3 => ?_)
        have hq := hq h3 ⟨q3.1, f2.tr q3.2.2.2⟩
        have lt : (repB P X es k).1 < 1000 := ofA_lt (lkPg_g hp (P p) 0 (ms.1 p hp).1 k (List.mem_of_getElem? hk)).1 hp (lk_ne hk)
        rcases q3.2.2.1 with ⟨w, _⟩ | ⟨_, m1, m2, m3⟩
        · have w : (repB P X es k).1 = 1000 := w
          omega
        · refine ⟨fun w => ⟨fun w2 => ⟨?_, e3⟩, fun w2 => ⟨?_, e3⟩⟩, fun w => ⟨?_, e3⟩⟩
          · obtain ⟨i, hi, rfl⟩ := rngI_t (by omega) rb
            have i2 : i = 2 := by
              have : i ≠ 0 := fun e => w (by rw [e]; rfl)
              have : i ≠ 1 := fun e => w2 (by rw [e])
              omega
            rw [i2, ix (by omega)] at hq
            rw [m3]
            exact hq
          · rw [w2, ix (by omega)] at hq; rw [m2]; exact hq
          · have w : c = nI 0 := w
            rw [w, ix (by omega)] at hq; rw [m1]; exact hq
      · rw [if_neg (fun w => by rw [g] at w; cases w)] at hq
        exact ⟨hq h2 ⟨q2.1, f2⟩, e2⟩
    · rw [if_neg (fun w => by rw [g] at w; cases w)] at hq0
      exact ⟨hq0, e1⟩
  · rw [if_neg (fun w => by rw [h] at w; cases w)] at hq0
    exact ⟨hq0, e1⟩
end
