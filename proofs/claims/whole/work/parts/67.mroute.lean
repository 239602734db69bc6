/-! the model: redirects and memory in rows; headingWith, wasHere, isGood, turnFrom, go -/
def TrM (σ : Hp) (k : Nat) (x : Pl × Pl) : Prop := RowP (hI σ 235 0) (1932 + 28 * k) x.1.1 (txO x.1.2) ∧ RowP (hI σ 235 0) (1932 + 28 * k + 14) x.2.1 (txO x.2.2) ∧ gPl x.1 ∧ gPl x.2
def TrsM (σ : Hp) (rs : List (Pl × Pl)) : Prop := hI σ 235 0 2268 = nI rs.length ∧ rs.length ≤ 12 ∧ All rs (TrM σ)
def EnM (σ : Hp) (k : Nat) (x : En) : Prop := hI σ 235 0 (2269 + 14 * k) = nI x.1 ∧ hI σ 235 0 (2269 + 14 * k + 1) = nI x.2.2 ∧ RowA (hI σ 235 0) (2269 + 14 * k + 2) (txAnc x.2.1) ∧ x.1 < 12 ∧ gAnc x.2.1 ∧ x.2.2 < 1000003
def EnsM (σ : Hp) (es : List En) : Prop := hI σ 235 0 2829 = nI es.length ∧ es.length ≤ 40 ∧ All es (EnM σ)
theorem hdW_c (a : Anc) : ∀ (hs : List Hd) (i : Nat), hdW a hs i = (-6) ∨ ∃ k y, hs[k]? = some y ∧ y.2.2.1 = a ∧ hdW a hs i = nI (i + k) := by
  intro hs
  induction hs with
  | nil => intro i; exact Or.inl rfl
  | cons y r ih =>
    intro i
    unfold hdW
    by_cases e : y.2.2.1 = a
    · rw [if_pos e]
      exact Or.inr ⟨0, y, rfl, e, rfl⟩
    · rw [if_neg e]
      rcases ih (i + 1) with h | ⟨k, z, h1, h2, h3⟩
      · exact Or.inl h
      · exact Or.inr ⟨k + 1, z, h1, h2, by rw [h3, show i + 1 + k = i + (k + 1) by omega]⟩
theorem neg6x {x : Int32} {n : Nat} (hn : n < 2147483648) (h : x = (-6) ∨ ∃ k, k < n ∧ x = nI k) : (x < 0 ↔ x = (-6)) := by
  rcases h with e | ⟨k, hk, e⟩
  · rw [e]
    decide
  · rw [e]
    refine ⟨fun w => ?_, fun w => ?_⟩
    · have : nI k < nI 0 := w
      have := (ltN (by omega) (by omega)).mp this
      omega
    · have := congrArg Int32.toInt w
      rw [nI_toInt (by omega)] at this
      have e2 : (-6 : Int32).toInt = -6 := by decide
      omega
theorem hdW_neg {a : Anc} {hs : List Hd} (hl : hs.length ≤ 100) : (hdW a hs 0 < 0 ↔ hdW a hs 0 = (-6)) := by
  refine neg6x (n := 100) (by omega) ?_
  rcases hdW_c a hs 0 with h | ⟨k, y, h1, _, h3⟩
  · exact Or.inl h
  · exact Or.inr ⟨k, by have := All_lt h1; omega, by rw [h3, Nat.zero_add]⟩
theorem rdV_neg {x : Pl} {rs : List (Pl × Pl)} (hl : rs.length ≤ 12) : (rdV (rdO x rs 0) < 0 ↔ rdO x rs 0 = none) := by
  have h := neg6x (x := rdV (rdO x rs 0)) (n := 12) (by omega) (by
    cases e : rdO x rs 0 with
    | none => exact Or.inl rfl
    | some r => exact Or.inr ⟨r.1, by have := All_lt (rdO_0 (k := r.1) (y := r.2) e); omega, rfl⟩)
  rw [h]
  cases e : rdO x rs 0 with
  | none => exact ⟨fun _ => rfl, fun _ => rfl⟩
  | some r =>
    refine ⟨fun w => ?_, fun w => by cases w⟩
    have w : nI r.1 = (-6) := w
    have := congrArg Int32.toInt w
    have hl2 := All_lt (rdO_0 (k := r.1) (y := r.2) e)
    rw [nI_toInt (by omega)] at this
    have e2 : (-6 : Int32).toInt = -6 := by decide
    omega
theorem m_turns (d : Nat) {σ : Hp} {n : Nat} (h : hI σ 235 0 2268 = nI n) : EI d 166 [vr 233 0] σ (nI n) σ := by
  refine EI_of mt_166 (Nat.le_of_ble_eq_true rfl) fun Q hq => ?_
  refine wp_ok (cut := []) ma_166 rfl 5 _ _ _ _ ?_
  show (vp_in (nI 2268) 2830 ∧ (Q (some (vi (hI σ 235 0 2268))) σ ∧ σ.1 = σ.1))
  rw [h]
  exact ⟨inb (by omega) (by omega), hq, rfl⟩
theorem m_turnAt (d : Nat) (σ : Hp) (r : Nat) : EI d 165 [vr 233 0, vi (nI r)] σ (nI (1932 + 28 * r)) σ := by
  refine EI_of mt_165 (Nat.le_of_ble_eq_true rfl) fun Q hq => ?_
  refine wp_ok (cut := []) ma_165 rfl 6 _ _ _ _ ?_
  show (Q (some (vi ((nI 1932) + ((nI 28) * (nI r))))) σ ∧ σ.1 = σ.1)
  rw [mulN, addN]
  exact ⟨hq, rfl⟩
section
variable {σ : Hp} {P : Nat → List Line} {X : Nat → XA} {rs : List (Pl × Pl)}
theorem m_headingWith (d : Nat) {p o : Nat} {hs : List Hd} {a : Anc} (hp : p < 12) (ho : o + 12 ≤ 5600) (hl : hs.length ≤ 100) (h1 : hI σ 241 0 p = nI hs.length) (ha : All hs (HedM σ p hs)) (ga : gAnc a) (hr : RowA (hI σ 261 0) o (txAnc a)) : EI (d + 1) 172 [vr 233 0, vi (nI p), vr 261 0, vi (nI o)] σ (hdW a hs 0) σ := by
  have loop : ∀ (b c : List Hd), hs = c ++ b → ∀ Q : Option AV → Hp → Prop, Q (some (vi (hdW a b c.length))) σ → Sat true (d + 1) 172 σ.1 Q 3 [some (vr 233 0), some (vi (nI p)), some (vr 261 0), some (vi (nI o)), some (vi (nI c.length))] [] σ := by
    intro b
    induction b with
    | nil =>
      intro c e Q hq
      rw [List.append_nil] at e
      refine wp_ok (cut := [3]) ma_172 rfl 18 _ _ _ _ ?_
      show (vp_in (nI p) 12 ∧ (((hI σ 241 0 ((nI p).toNatClampNeg)) ≤ (nI c.length) → (Q (some (vi (-6))) σ ∧ σ.1 = σ.1)) ∧ (¬ (hI σ 241 0 ((nI p).toNatClampNeg)) ≤ (nI c.length) → CalI true d 144 [vi (nI p), vi (nI c.length)] σ σ.1 (fun x2 s1 => CalI true d 135 [vr 233 0, vr 245 0, vi x2, vr 261 0, vi (nI o)] s1 σ.1 (fun x4 s3 => ((x4 = 0 → Sat true (d + 1) 172 σ.1 Q 3 [some (vr 233 0), some (vi (nI p)), some (vr 261 0), some (vi (nI o)), some (vi ((nI c.length) + nI 1))] [] s3) ∧ (¬ x4 = 0 → (Q (some (vi (nI c.length))) s3 ∧ s3.1 = σ.1))))))))
      rw [ix (by omega), h1, ← e]
      exact ⟨inb (by omega) (by omega), fun _ => ⟨hq, rfl⟩, fun g => absurd (Int32.le_refl _) g⟩
    | cons y b ih =>
      intro c e Q hq
      have hlen : hs.length = c.length + (b.length + 1) := by rw [e, List.length_append, List.length_cons]
      have hy : HedM σ p hs c.length y := ha c.length y (by rw [e, List.getElem?_append_right (Nat.le_refl _), Nat.sub_self]; rfl)
      have gy := hy.2.2.2.2.1
      have sa := m_sameA245_261 (σ := σ) d (i := 12 * (100 * p + c.length)) (j := o) (by omega) ho (txAnc_le2 gy).2 (txAnc_le2 ga).2 (txAnc_lt gy) (txAnc_lt ga) hy.2.2.1 hr
      unfold hdW at hq
      refine wp_ok (cut := [3]) ma_172 rfl 18 _ _ _ _ ?_
      show (vp_in (nI p) 12 ∧ (((hI σ 241 0 ((nI p).toNatClampNeg)) ≤ (nI c.length) → (Q (some (vi (-6))) σ ∧ σ.1 = σ.1)) ∧ (¬ (hI σ 241 0 ((nI p).toNatClampNeg)) ≤ (nI c.length) → CalI true d 144 [vi (nI p), vi (nI c.length)] σ σ.1 (fun x2 s1 => CalI true d 135 [vr 233 0, vr 245 0, vi x2, vr 261 0, vi (nI o)] s1 σ.1 (fun x4 s3 => ((x4 = 0 → Sat true (d + 1) 172 σ.1 Q 3 [some (vr 233 0), some (vi (nI p)), some (vr 261 0), some (vi (nI o)), some (vi ((nI c.length) + nI 1))] [] s3) ∧ (¬ x4 = 0 → (Q (some (vi (nI c.length))) s3 ∧ s3.1 = σ.1))))))))
      rw [ix (by omega), h1, addN]
      refine ⟨inb (by omega) (by omega), br_le (by omega) (by omega) (fun g => by omega) (fun _ => cal_i (m_anchorAt d σ p c.length) rfl (cal_i sa rfl (brI (fun g => ?_) (fun g => ?_))))⟩
      · rw [if_neg (fun w => of_decide_eq_false g (by rw [w]))] at hq
        have := ih (c ++ [y]) (by rw [e, List.append_assoc]; rfl) Q (by rw [List.length_append]; exact hq)
        rw [List.length_append] at this
        exact this
      · rw [if_pos ((txAnc_inj gy ga).mp (of_decide_eq_true g))] at hq
        exact ⟨hq, rfl⟩
  refine EI_of mt_172 (Nat.le_of_ble_eq_true rfl) fun Q hq => ?_
  refine wp_ok (cut := [3]) ma_172 rfl 2 _ _ _ _ ?_
  show Sat true (d + 1) 172 σ.1 Q 3 [some (vr 233 0), some (vi (nI p)), some (vr 261 0), some (vi (nI o)), some (vi (nI 0))] [] σ
  exact loop hs [] rfl Q hq
def SeenM (h : Hp) (j : Nat) (y : Pl) : Prop := RowP (hI h 261 0) (14 * j) y.1 (txO y.2) ∧ gPl y
theorem m_wasHere (d : Nat) {seen : List Pl} {x : Pl} (h35 : hI σ 233 0 35 = nI seen.length) (hl : seen.length ≤ 390) (ha : All seen (SeenM σ)) (hx : SeenM σ seen.length x) : EI (d + 2) 173 [vr 233 0] σ (bI (decide (x ∈ seen))) σ := by
  refine EI_of mt_173 (Nat.le_of_ble_eq_true rfl) fun Q hq => ?_
  have loop : ∀ (b a : List Pl), seen = a ++ b → ∀ t : Bool, t = decide (x ∈ a) → Sat true (d + 2) 173 σ.1 Q 4 [some (vr 233 0), some (vi (bI t)), some (vi (nI a.length))] [] σ := by
    intro b
    induction b with
    | nil =>
      intro a e t ht
      rw [List.append_nil] at e
      refine wp_ok (cut := [4]) ma_173 rfl 25 _ _ _ _ ?_
      show (((hI σ 233 0 35) ≤ (nI a.length) → (((bI t) = 0 ∨ (bI t) = 1) ∧ (Q (some (vi (bI t))) σ ∧ σ.1 = σ.1))) ∧ (¬ (hI σ 233 0 35) ≤ (nI a.length) → ((¬ (bI t) = 0 → Sat true (d + 2) 173 σ.1 Q 4 [some (vr 233 0), some (vi (nI 1)), some (vi ((nI a.length) + nI 1))] [] σ) ∧ ((bI t) = 0 → CalI true (d + 1) 167 [vr 233 0, vr 261 0, vi ((nI 14) * (nI a.length)), vr 261 0, vi ((nI 14) * (hI σ 233 0 35))] σ σ.1 (fun x2 s1 => ((x2 = 0 → Sat true (d + 2) 173 σ.1 Q 4 [some (vr 233 0), some (vi (nI 0)), some (vi ((nI a.length) + nI 1))] [] s1) ∧ (¬ x2 = 0 → Sat true (d + 2) 173 σ.1 Q 4 [some (vr 233 0), some (vi (nI 1)), some (vi ((nI a.length) + nI 1))] [] s1)))))))
      rw [h35]
      rw [e, ← ht] at hq
      rw [e]
      refine ⟨fun _ => ⟨?_, hq, rfl⟩, fun g => absurd (Int32.le_refl _) g⟩
      cases t
      · exact Or.inl rfl
      · exact Or.inr rfl
    | cons y b ih =>
      intro a e t ht
      have hlen : seen.length = a.length + (b.length + 1) := by rw [e, List.length_append, List.length_cons]
      have hy : SeenM σ a.length y := ha a.length y (by rw [e, List.getElem?_append_right (Nat.le_refl _), Nat.sub_self]; rfl)
      have sp := m_sameP261_261 (σ := σ) d (i := 14 * a.length) (j := 14 * seen.length) (by omega) (by omega) hy.2.1 hx.2.1 (txO_len hy.2.2) (txO_len hx.2.2) (txO_lt hy.2.2) (txO_lt hx.2.2) hy.1 hx.1
      have nx : ∀ t', t' = decide (x ∈ a ++ [y]) → Sat true (d + 2) 173 σ.1 Q 4 [some (vr 233 0), some (vi (bI t')), some (vi (nI (a.length + 1)))] [] σ := by
        intro t' h'
        have := ih (a ++ [y]) (by rw [e, List.append_assoc]; rfl) t' h'
        rw [List.length_append] at this
        exact this
      refine wp_ok (cut := [4]) ma_173 rfl 25 _ _ _ _ ?_
      show (((hI σ 233 0 35) ≤ (nI a.length) → (((bI t) = 0 ∨ (bI t) = 1) ∧ (Q (some (vi (bI t))) σ ∧ σ.1 = σ.1))) ∧ (¬ (hI σ 233 0 35) ≤ (nI a.length) → ((¬ (bI t) = 0 → Sat true (d + 2) 173 σ.1 Q 4 [some (vr 233 0), some (vi (nI 1)), some (vi ((nI a.length) + nI 1))] [] σ) ∧ ((bI t) = 0 → CalI true (d + 1) 167 [vr 233 0, vr 261 0, vi ((nI 14) * (nI a.length)), vr 261 0, vi ((nI 14) * (hI σ 233 0 35))] σ σ.1 (fun x2 s1 => ((x2 = 0 → Sat true (d + 2) 173 σ.1 Q 4 [some (vr 233 0), some (vi (nI 0)), some (vi ((nI a.length) + nI 1))] [] s1) ∧ (¬ x2 = 0 → Sat true (d + 2) 173 σ.1 Q 4 [some (vr 233 0), some (vi (nI 1)), some (vi ((nI a.length) + nI 1))] [] s1)))))))
      rw [h35, addN, mulN, mulN]
      refine br_le (by omega) (by omega) (fun g => by omega) (fun _ => brN (fun g => ?_) (fun g => cal_i sp rfl (brI (fun g2 => ?_) (fun g2 => ?_))))
      · refine nx true (decide_eq_true ?_).symm
        rw [g] at ht
        exact List.mem_append.mpr (Or.inl (of_decide_eq_true ht.symm))
      · refine nx false (decide_eq_false fun w => ?_).symm
        rw [g] at ht
        rcases List.mem_append.mp w with w | w
        · exact of_decide_eq_false ht.symm w
        · cases w with
          | head => exact of_decide_eq_false g2 ⟨rfl, rfl⟩
          | tail _ w => cases w
      · refine nx true (decide_eq_true ?_).symm
        have w := of_decide_eq_true g2
        have : y = x := Prod.ext w.1 ((txO_inj hy.2.2 hx.2.2).mp w.2)
        rw [← this]
        exact List.mem_append.mpr (Or.inr List.mem_cons_self)
  refine wp_ok (cut := [4]) ma_173 rfl 4 _ _ _ _ ?_
  show Sat true (d + 2) 173 σ.1 Q 4 [some (vr 233 0), some (vi (nI 0)), some (vi (nI 0))] [] σ
  exact loop seen [] rfl false (decide_eq_false (fun w => by cases w)).symm
end
