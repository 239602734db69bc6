/-! about in the model; heading, anchor -/
def QF (f _ : Nat) : Prop := f = 4 ∨ (225 ≤ f ∧ f ≤ 232)
theorem m1_toInt {n : Nat} (hn : n < 2147483648) : (nI n - nI 1).toInt = (n : Int) - 1 := by
  cases n with
  | zero => decide
  | succ k =>
    rw [subN (by omega), nI_toInt (by omega)]
    omega
theorem m_inN (d : Nat) (σ : Hp) (x : Int32) {n : Nat} (hn : n < 2147483648) : EI d 108 [vi x, vi (nI 0), vi (nI n - nI 1)] σ (bI (rngI x n)) σ := by
  have e : decide (nI 0 ≤ x ∧ x ≤ nI n - nI 1) = rngI x n := by
    unfold rngI
    refine decide_eq_decide.mpr ?_
    have a : x ≤ nI n - nI 1 ↔ x < nI n := by
      rw [fa_le, fa_lt, m1_toInt hn, nI_toInt hn]
      omega
    rw [a]
    exact Iff.rfl
  rw [← e]
  exact m_inI d σ x (nI 0) (nI n - nI 1)
theorem ctF_c (hs : List Hd) (x : Hd) (k : Nat) : ctF (hs ++ [x]) k = if k ≤ x.1 then (if x.1 = k then 1 else 0) + ctF hs k else 0 := by
  rw [ctF_sn]
  unfold ctS
  by_cases e : k = x.1
  · rw [if_pos e, if_pos (by omega), if_pos e.symm, e]
    omega
  · rw [if_neg e]
    by_cases g : x.1 < k
    · rw [if_pos g, if_neg (by omega)]
    · rw [if_neg g, if_pos (by omega), if_neg (fun w => e w.symm), Nat.zero_add]
def hdB (X : Nat → XA) (a b : Int32) : Bool := rngI a 12 && rngI b (X a.toNatClampNeg).2.2.1.length
def hdN (hs : List Hd) (j : Nat) (y : Hd) : Nat → Int32
  | 0 => nI y.1
  | 1 => nI y.2.1
  | 2 => nI (txAnc y.2.2.1).length
  | k + 3 => nI (ctF (hs.take (j + 1)) (k + 1))
def hdO (o : Option Hd) (f : Hd → Int32) : Int32 := match o with
  | none => 0
  | some y => f y
def headV (X : Nat → XA) (a b c : Int32) : Int32 := if hdB X a b then (if rngI c 13 then hdO (X a.toNatClampNeg).2.2.1[b.toNatClampNeg]? (fun y => hdN (X a.toNatClampNeg).2.2.1 b.toNatClampNeg y c.toNatClampNeg) else (-2)) else (-1)
def ancV (X : Nat → XA) (a b c : Int32) : Int32 := if hdB X a b then hdO (X a.toNatClampNeg).2.2.1[b.toNatClampNeg]? (fun y => if rngI c (txAnc y.2.2.1).length then nI ((txAnc y.2.2.1).getD c.toNatClampNeg 0) else (-6)) else (-1)
theorem hdB_t {X : Nat → XA} {a b : Int32} (hl : ∀ p, p < 12 → (X p).2.2.1.length ≤ 100) (h : hdB X a b = true) : ∃ p j y, p < 12 ∧ a = nI p ∧ b = nI j ∧ (X p).2.2.1[j]? = some y ∧ j < 100 := by
  unfold hdB at h
  rw [Bool.and_eq_true] at h
  obtain ⟨p, hp, rfl⟩ := rngI_t (by omega) h.1
  rw [ix (by omega)] at h
  have := hl p hp
  obtain ⟨j, hj, rfl⟩ := rngI_t (by omega) h.2
  exact ⟨p, j, _, hp, rfl, rfl, List.getElem?_eq_getElem hj, by omega⟩
section
variable {σ : Hp} {P : Nat → List Line} {X : Nat → XA} {rs : List (Pl × Pl)} {es : List En}
theorem m_about (d : Nat) (ms : MS σ P X rs es) (x b : Int32) : PI (d + 7) 158 [vr 233 0, vi x, vi b] σ (abV P X x b) (fun h => MS h P X rs es ∧ FrM SQ σ h) := by
  refine PI_of mt_158 (Nat.le_of_ble_eq_true rfl) fun Q hq => ?_
  have hq0 := hq σ ⟨ms, FrM.rfl' _ _⟩
  unfold abV at hq hq0
  refine wp_ok (cut := []) ma_158 rfl 21 _ _ _ _ ?_
  show CalI true (d + 6) 109 [vi x] σ σ.1 (fun x2 s1 => ((¬ x2 = 0 → CalI true (d + 6) 108 [vi b, vi (nI 0), vi (nI 7)] s1 σ.1 (fun x4 s3 => ((¬ x4 = 0 → CalI true (d + 6) 111 [vr 233 0, vi x] s3 σ.1 (fun x6 s5 => ((¬ x6 = 0 → CalV true (d + 6) 157 [vr 233 0] s5 σ.1 (fun s7 => (((b = nI 0 → CalI true (d + 6) 139 [vr 233 0, vi x] s7 σ.1 (fun x9 s8 => (Q (some (vi x9)) s8 ∧ s8.1 = σ.1))) ∧ ((b = nI 1 → (vp_in x 12 ∧ (Q (some (vi (hI s7 239 0 x.toNatClampNeg))) s7 ∧ s7.1 = σ.1))) ∧ ((b = nI 2 → (vp_in x 12 ∧ (Q (some (vi (hI s7 241 0 x.toNatClampNeg))) s7 ∧ s7.1 = σ.1))) ∧ ((b = nI 3 → (vp_in x 12 ∧ (Q (some (vi (hI s7 247 0 x.toNatClampNeg))) s7 ∧ s7.1 = σ.1))) ∧ ((b = nI 4 → (vp_in x 12 ∧ (Q (some (vi (hI s7 253 0 x.toNatClampNeg))) s7 ∧ s7.1 = σ.1))) ∧ ((b = nI 5 → (vp_in x 12 ∧ (Q (some (vi (hI s7 251 0 x.toNatClampNeg))) s7 ∧ s7.1 = σ.1))) ∧ ((b = nI 6 → (vp_in x 12 ∧ (Q (some (vi (hI s7 252 0 x.toNatClampNeg))) s7 ∧ s7.1 = σ.1))) ∧ True))))))) ∧ ((b.toInt < 0 ∨ 6 < b.toInt) → (vp_in x 12 ∧ (Q (some (vi (hI s7 240 0 x.toNatClampNeg))) s7 ∧ s7.1 = σ.1)))))) ∧ (x6 = 0 → (Q (some (vi (-5))) s5 ∧ s5.1 = σ.1))))) ∧ (x4 = 0 → (Q (some (vi (-2))) s3 ∧ s3.1 = σ.1))))) ∧ (x2 = 0 → (Q (some (vi (-1))) s1 ∧ s1.1 = σ.1))))
  refine cal_i (m_isPage (d + 5) σ x) rfl (brN (fun h => ?_) (fun h => ?_))
  · rw [if_pos h] at hq hq0
    obtain ⟨p, hp, rfl⟩ := rngI_t (by omega) h
    rw [ix (by omega)] at hq hq0 ⊢
    refine cal_i (m_inR (d + 6) σ b (m := 7) (by omega)) rfl (brN (fun g => ?_) (fun g => ?_))
    · rw [if_pos g] at hq hq0
      refine cal_i (m_has (d + 5) hp (ms.2.2.1 p hp)) rfl (brN (fun g2 => ?_) (fun g2 => ?_))
      · have hne := of_decide_eq_true g2
        rw [if_neg hne] at hq
        have i1 : vp_in (nI p) 12 := inb (by omega) (by omega)
        refine cp_v (m_lay (d + 1) ms) rfl (fun h1 q1 e1 => ?_)
        have hq := hq h1 ⟨q1.1, q1.2.2.mo fun f k w => Or.inl w⟩
        obtain ⟨l1, l2⟩ := q1.2.1.2 p hp
        have l2 := l2 hne
        refine ⟨⟨fun e => cal_i (m_linesOf (d + 5) hp (q1.1.2.2.1 p hp) hne) e1 ⟨?_, e1⟩, fun e => ⟨i1, ?_, e1⟩, fun e => ⟨i1, ?_, e1⟩, fun e => ⟨i1, ?_, e1⟩, fun e => ⟨i1, ?_, e1⟩, fun e => ⟨i1, ?_, e1⟩, fun e => ⟨i1, ?_, e1⟩, True.intro⟩, fun e => ⟨i1, ?_, e1⟩⟩
        · rw [e, ix (by omega)] at hq; exact hq
        · rw [e, ix (by omega)] at hq; rw [l2.1]; exact hq
        · rw [e, ix (by omega)] at hq; rw [l1.1]; exact hq
        · rw [e, ix (by omega)] at hq; rw [l1.2.2.1]; exact hq
        · rw [e, ix (by omega)] at hq; rw [l1.2.2.2.2.2.1]; exact hq
        · rw [e, ix (by omega)] at hq; rw [l1.2.2.2.2.2.2.2 hne]; exact hq
        · rw [e, ix (by omega)] at hq; rw [l1.2.2.2.2.1]; exact hq
        · obtain ⟨k, hk, rfl⟩ := rngI_t (by omega) g
          rw [nI_toInt (by omega)] at e
          have hk7 : k = 7 := by omega
          rw [hk7, ix (by omega)] at hq
          rw [l2.2]
          exact hq
      · rw [if_pos (pnil g2)] at hq0
        exact ⟨hq0, rfl⟩
    · rw [if_neg (fun w => by rw [g] at w; cases w)] at hq0
      exact ⟨hq0, rfl⟩
  · rw [if_neg (fun w => by rw [h] at w; cases w)] at hq0
    exact ⟨hq0, rfl⟩
theorem e_partOf (d : Nat) {r j k : Nat} {hs : List Hd} (hr : r < 12) (hh : HsC σ r hs) (hj : j < hs.length) (hk : k < 1000) (hlv : ∀ x ∈ hs, x.1 < 1000) : EI d 14 [vr 32 r, vi (nI j), vi (nI k)] σ (nI (ctF (hs.take (j + 1)) k)) σ := by
  refine EI_of mt_14 (Nat.le_of_ble_eq_true rfl) fun Q hq => ?_
  have h100 := hh.2.1
  have loop : ∀ (n c : Nat) (b : Int32), n ≤ hs.length → ((n = 0 ∧ b = (-1)) ∨ (1 ≤ n ∧ b = nI (n - 1))) → c + ctF (hs.take n) k = ctF (hs.take (j + 1)) k → Sat true d 14 σ.1 Q 5 [some (vr 32 r), some (vi (nI j)), some (vi (nI k)), some (vi (nI c)), some (vi b)] [] σ := by
    intro n
    induction n with
    | zero =>
      intro c b hn hb hc
      have eb : b = (-1) := by
        rcases hb with w | w
        · exact w.2
        · have := w.1; omega
      have e0 : ctF (hs.take 0) k = 0 := rfl
      rw [e0, Nat.add_zero] at hc
      rw [← hc] at hq
      subst eb
      refine wp_ok (cut := [5]) ma_14 rfl 17 _ _ _ _ ?_
      show (((-1 : Int32) < 0 → (Q (some (vi (nI c))) σ ∧ σ.1 = σ.1)) ∧ (¬ (-1 : Int32) < 0 → (r < 12 ∧ (r < 12 ∧ (vp_in (-1 : Int32) 100 ∧ (((hI σ 33 r ((-1 : Int32).toNatClampNeg)) < (nI k) → (Q (some (vi (nI c))) σ ∧ σ.1 = σ.1)) ∧ (¬ (hI σ 33 r ((-1 : Int32).toNatClampNeg)) < (nI k) → (r < 12 ∧ (r < 12 ∧ (vp_in (-1 : Int32) 100 ∧ ((¬ (hI σ 33 r ((-1 : Int32).toNatClampNeg)) = (nI k) → Sat true d 14 σ.1 Q 5 [some (vr 32 r), some (vi (nI j)), some (vi (nI k)), some (vi (nI c)), some (vi ((-1 : Int32) + (-1)))] [] σ) ∧ ((hI σ 33 r ((-1 : Int32).toNatClampNeg)) = (nI k) → Sat true d 14 σ.1 Q 5 [some (vr 32 r), some (vi (nI j)), some (vi (nI k)), some (vi ((nI c) + nI 1)), some (vi ((-1 : Int32) + (-1)))] [] σ))))))))))))
      exact ⟨fun _ => ⟨hq, rfl⟩, fun g => absurd (by decide) g⟩
    | succ n ih =>
      intro c b hn hb hc
      have eb : b = nI n := by
        rcases hb with w | w
        · have := w.1; omega
        · exact w.2
      subst eb
      have hn' : n < hs.length := by omega
      have hy : hs[n]? = some hs[n] := List.getElem?_eq_getElem hn'
      have h33 := (hh.2.2 n _ hy).1
      have lv := hlv _ (List.getElem_mem hn')
      rw [take_s hy, ctF_c] at hc
      have nx : ∀ c', c' + ctF (hs.take n) k = ctF (hs.take (j + 1)) k → Sat true d 14 σ.1 Q 5 [some (vr 32 r), some (vi (nI j)), some (vi (nI k)), some (vi (nI c')), some (vi (nI n + (-1)))] [] σ := by
        intro c' hc'
        refine ih c' _ (by omega) ?_ hc'
        cases n with
        | zero => exact Or.inl ⟨rfl, by decide⟩
        | succ m =>
          refine Or.inr ⟨by omega, ?_⟩
          have e : nI (m + 1) + (-1) = nI (m + 1) - nI 1 := by
            rw [Int32.sub_eq_add_neg]
            exact congrArg (nI (m + 1) + ·) (by decide : (-1 : Int32) = -nI 1)
          rw [e, subN (by omega)]
      refine wp_ok (cut := [5]) ma_14 rfl 17 _ _ _ _ ?_
      show (((nI n) < 0 → (Q (some (vi (nI c))) σ ∧ σ.1 = σ.1)) ∧ (¬ (nI n) < 0 → (r < 12 ∧ (r < 12 ∧ (vp_in (nI n) 100 ∧ (((hI σ 33 r ((nI n).toNatClampNeg)) < (nI k) → (Q (some (vi (nI c))) σ ∧ σ.1 = σ.1)) ∧ (¬ (hI σ 33 r ((nI n).toNatClampNeg)) < (nI k) → (r < 12 ∧ (r < 12 ∧ (vp_in (nI n) 100 ∧ ((¬ (hI σ 33 r ((nI n).toNatClampNeg)) = (nI k) → Sat true d 14 σ.1 Q 5 [some (vr 32 r), some (vi (nI j)), some (vi (nI k)), some (vi (nI c)), some (vi ((nI n) + (-1)))] [] σ) ∧ ((hI σ 33 r ((nI n).toNatClampNeg)) = (nI k) → Sat true d 14 σ.1 Q 5 [some (vr 32 r), some (vi (nI j)), some (vi (nI k)), some (vi ((nI c) + nI 1)), some (vi ((nI n) + (-1)))] [] σ))))))))))))
      simp only [hr, true_and]
      rw [ix (by omega), h33, addN]
      have i1 : vp_in (nI n) 100 := inb (by omega) (by omega)
      refine br_lt (b := 0) (by omega) (by omega) (fun g => by omega) (fun _ => ⟨i1, br_lt (by omega) (by omega) (fun g => ?_) (fun g => ⟨i1, br_ne (by omega) (by omega) (fun g2 => nx c ?_) (fun g2 => nx (c + 1) ?_)⟩)⟩)
      · rw [if_neg (by omega), Nat.add_zero] at hc
        rw [← hc] at hq
        exact ⟨hq, True.intro⟩
      · rw [if_pos g, if_neg g2, Nat.zero_add] at hc
        exact hc
      · rw [if_pos g, if_pos g2] at hc
        omega
  refine wp_ok (cut := [5]) ma_14 rfl 4 _ _ _ _ ?_
  show Sat true d 14 σ.1 Q 5 [some (vr 32 r), some (vi (nI j)), some (vi (nI k)), some (vi (nI 0)), some (vi (nI j))] [] σ
  exact loop (j + 1) 0 (nI j) (by omega) (Or.inr ⟨by omega, rfl⟩) (Nat.zero_add _)
end
