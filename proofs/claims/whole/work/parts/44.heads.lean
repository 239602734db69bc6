/-! headings of an expansion: level, page, anchor, section; the class's small methods on them -/
abbrev Hd : Type := Nat × Nat × Anc × Option Nat
def cntN (w : List Nat) : List Hd → Nat
  | [] => 0
  | x :: r => (if x.2.2.1.1 = w then 1 else 0) + cntN w r
theorem cntN_app (w : List Nat) (a b : List Hd) : cntN w (a ++ b) = cntN w a + cntN w b := by
  induction a with
  | nil => show cntN w b = 0 + cntN w b; omega
  | cons x r ih =>
    show (if x.2.2.1.1 = w then 1 else 0) + cntN w (r ++ b) = (if x.2.2.1.1 = w then 1 else 0) + cntN w r + cntN w b
    omega
theorem cntN_le (w : List Nat) (a : List Hd) : cntN w a ≤ a.length := by
  induction a with
  | nil => exact Nat.le_refl _
  | cons x r ih =>
    show (if x.2.2.1.1 = w then 1 else 0) + cntN w r ≤ r.length + 1
    split <;> omega
def secI (s : Option Nat) : Int32 := match s with
  | none => (-6)
  | some k => nI k
def HeadC (σ : Hp) (r j : Nat) (x : Hd) : Prop := hI σ 33 r j = nI x.1 ∧ hI σ 34 r j = nI x.2.1 ∧ hL σ 35 r j = lN (anC x.2.2.1) ∧ hI σ 36 r j = secI x.2.2.2 ∧ gAnc x.2.2.1
def HsC (σ : Hp) (r : Nat) (hs : List Hd) : Prop := hI σ 32 r 2 = nI hs.length ∧ hs.length ≤ 100 ∧ All hs (HeadC σ r)
theorem All_mid {α : Type} {P : Nat → α → Prop} {a b : List α} {x : α} (h : All (a ++ x :: b) P) : P a.length x := h a.length x (by rw [List.getElem?_append_right (Nat.le_refl _), Nat.sub_self]; rfl)
theorem e_isIn (d : Nat) (σ : Hp) (m : Int32) {p : Nat} (hp : p < 12) : EI d 97 [vi m, vi (nI p)] σ (bI (bt m p)) σ := by
  refine EI_of mt_97 (Nat.le_of_ble_eq_true rfl) fun Q hq => ?_
  refine wp_ok (cut := []) ma_97 rfl 9 _ _ _ _ ?_
  show (((((m.toUInt32 >>> ((nI p).toUInt32 &&& Int32.toUInt32 31)).toInt32) &&& (nI 1)) = 0 → (((nI 0) = 0 ∨ (nI 0) = 1) ∧ (Q (some (vi (nI 0))) σ ∧ σ.1 = σ.1))) ∧ (¬ (((m.toUInt32 >>> ((nI p).toUInt32 &&& Int32.toUInt32 31)).toInt32) &&& (nI 1)) = 0 → (((nI 1) = 0 ∨ (nI 1) = 1) ∧ (Q (some (vi (nI 1))) σ ∧ σ.1 = σ.1))))
  rw [in_u m hp]
  cases h : bt m p with
  | false => rw [h] at hq; exact b_f ⟨Or.inl rfl, hq, rfl⟩
  | true => rw [h] at hq; exact b_t ⟨Or.inr rfl, hq, rfl⟩
theorem anC_div {a : Anc} (h : gAnc a) : anC a / 128 = nmC a.1 := by
  have := h.2
  unfold anC
  omega
theorem e_headingsNamed (d : Nat) {σ : Hp} {r : Nat} {hs : List Hd} {w : List Nat} (hr : r < 12) (hh : HsC σ r hs) (hw : gName w) : EI (d + 1) 12 [vr 32 r, vl (lN (nmC w))] σ (nI (cntN w hs)) σ := by
  obtain ⟨h2, h100, ha⟩ := hh
  have loop : ∀ (b a : List Hd), hs = a ++ b → ∀ Q : Option AV → Hp → Prop, Q (some (vi (nI (cntN w hs)))) σ → Sat true (d + 1) 12 σ.1 Q 5 [some (vr 32 r), some (vl (lN (nmC w))), none, some (vi (nI (cntN w a))), some (vi (nI a.length))] [] σ := by
    intro b
    induction b with
    | nil =>
      intro a e Q hq
      rw [List.append_nil] at e
      subst e
      refine wp_ok (cut := [5]) ma_12 rfl 15 _ _ _ _ ?_
      show (r < 12 ∧ (((hI σ 32 r 2) ≤ (nI hs.length) → (Q (some (vi (nI (cntN w hs)))) σ ∧ σ.1 = σ.1)) ∧ (¬ (hI σ 32 r 2) ≤ (nI hs.length) → (r < 12 ∧ (r < 12 ∧ (vp_in (nI hs.length) 100 ∧ CalL true d 2 [vl (hL σ 35 r ((nI hs.length).toNatClampNeg))] σ σ.1 (fun x2 s1 => ((¬ (lg_cmp x2 (lN (nmC w))) = 0 → Sat true (d + 1) 12 σ.1 Q 5 [some (vr 32 r), some (vl (lN (nmC w))), none, some (vi (nI (cntN w hs))), some (vi ((nI hs.length) + nI 1))] [] s1) ∧ ((lg_cmp x2 (lN (nmC w))) = 0 → Sat true (d + 1) 12 σ.1 Q 5 [some (vr 32 r), some (vl (lN (nmC w))), none, some (vi ((nI (cntN w hs)) + nI 1)), some (vi ((nI hs.length) + nI 1))] [] s1)))))))))
      rw [h2]
      exact ⟨hr, fun _ => ⟨hq, rfl⟩, fun g => absurd (Int32.le_refl _) g⟩
    | cons x b ih =>
      intro a e Q hq
      have kq := ih (a ++ [x]) (by rw [e, List.append_assoc]; rfl) Q hq
      rw [cntN_app, List.length_append] at kq
      have hl : hs.length = a.length + (b.length + 1) := by rw [e, List.length_append, List.length_cons]
      have hx : HeadC σ r a.length x := All_mid (by rw [← e]; exact ha)
      obtain ⟨_, _, x3, _, x5⟩ := hx
      have xb := anC_b x5
      have c1 := cntN_le w a
      refine wp_ok (cut := [5]) ma_12 rfl 15 _ _ _ _ ?_
      show (r < 12 ∧ (((hI σ 32 r 2) ≤ (nI a.length) → (Q (some (vi (nI (cntN w a)))) σ ∧ σ.1 = σ.1)) ∧ (¬ (hI σ 32 r 2) ≤ (nI a.length) → (r < 12 ∧ (r < 12 ∧ (vp_in (nI a.length) 100 ∧ CalL true d 2 [vl (hL σ 35 r ((nI a.length).toNatClampNeg))] σ σ.1 (fun x2 s1 => ((¬ (lg_cmp x2 (lN (nmC w))) = 0 → Sat true (d + 1) 12 σ.1 Q 5 [some (vr 32 r), some (vl (lN (nmC w))), none, some (vi (nI (cntN w a))), some (vi ((nI a.length) + nI 1))] [] s1) ∧ ((lg_cmp x2 (lN (nmC w))) = 0 → Sat true (d + 1) 12 σ.1 Q 5 [some (vr 32 r), some (vl (lN (nmC w))), none, some (vi ((nI (cntN w a)) + nI 1)), some (vi ((nI a.length) + nI 1))] [] s1)))))))))
      rw [h2, ix (by omega), x3]
      refine ⟨hr, br_le (by omega) (by omega) (fun g => by omega) (fun _ => ⟨hr, hr, inb (by omega) (by omega), ?_⟩)⟩
      refine cal_l (e_nameOf d σ (by omega)) rfl ?_
      have n1 := nmC_b x5.1
      have n2 := nmC_b hw
      rw [anC_div x5, lg_cmp_eq, fb_lN_inj (by omega) (by omega), addN, addN]
      refine ⟨fun g => ?_, fun g => ?_⟩
      · have e1 : cntN w [x] = 0 := by
          show (if x.2.2.1.1 = w then 1 else 0) + 0 = 0
          rw [if_neg (fun q => g (by rw [q]))]
        rw [e1] at kq
        exact kq
      · have e1 : cntN w [x] = 1 := by
          show (if x.2.2.1.1 = w then 1 else 0) + 0 = 1
          rw [if_pos (nmC_inj (gName_r x5.1).1 (gName_r hw).1 g)]
        rw [e1] at kq
        exact kq
  refine EI_of mt_12 (Nat.le_of_ble_eq_true rfl) fun Q hq => ?_
  refine wp_ok (cut := [5]) ma_12 rfl 4 _ _ _ _ ?_
  show Sat true (d + 1) 12 σ.1 Q 5 [some (vr 32 r), some (vl (lN (nmC w))), none, some (vi (nI 0)), some (vi (nI 0))] [] σ
  exact loop hs [] rfl Q hq
def hdW (x : Anc) : List Hd → Nat → Int32
  | [], _ => (-6)
  | y :: r, i => if y.2.2.1 = x then nI i else hdW x r (i + 1)
theorem e_headingWith (d : Nat) {σ : Hp} {r : Nat} {hs : List Hd} {x : Anc} (hr : r < 12) (hh : HsC σ r hs) (hx : gAnc x) : EI d 13 [vr 32 r, vl (lN (anC x))] σ (hdW x hs 0) σ := by
  obtain ⟨h2, h100, ha⟩ := hh
  have loop : ∀ (b a : List Hd), hs = a ++ b → ∀ Q : Option AV → Hp → Prop, Q (some (vi (hdW x b a.length))) σ → Sat true d 13 σ.1 Q 2 [some (vr 32 r), some (vl (lN (anC x))), none, some (vi (nI a.length))] [] σ := by
    intro b
    induction b with
    | nil =>
      intro a e Q hq
      rw [List.append_nil] at e
      subst e
      refine wp_ok (cut := [2]) ma_13 rfl 13 _ _ _ _ ?_
      show (r < 12 ∧ (((hI σ 32 r 2) ≤ (nI hs.length) → (Q (some (vi (-6))) σ ∧ σ.1 = σ.1)) ∧ (¬ (hI σ 32 r 2) ≤ (nI hs.length) → (r < 12 ∧ (r < 12 ∧ (vp_in (nI hs.length) 100 ∧ ((¬ (lg_cmp (hL σ 35 r ((nI hs.length).toNatClampNeg)) (lN (anC x))) = 0 → Sat true d 13 σ.1 Q 2 [some (vr 32 r), some (vl (lN (anC x))), none, some (vi ((nI hs.length) + nI 1))] [] σ) ∧ ((lg_cmp (hL σ 35 r ((nI hs.length).toNatClampNeg)) (lN (anC x))) = 0 → (Q (some (vi (nI hs.length))) σ ∧ σ.1 = σ.1)))))))))
      rw [h2]
      exact ⟨hr, fun _ => ⟨hq, rfl⟩, fun g => absurd (Int32.le_refl _) g⟩
    | cons y b ih =>
      intro a e Q hq
      have hl : hs.length = a.length + (b.length + 1) := by rw [e, List.length_append, List.length_cons]
      have hy : HeadC σ r a.length y := All_mid (by rw [← e]; exact ha)
      obtain ⟨_, _, y3, _, y5⟩ := hy
      have yb := anC_b y5
      have xb := anC_b hx
      unfold hdW at hq
      refine wp_ok (cut := [2]) ma_13 rfl 13 _ _ _ _ ?_
      show (r < 12 ∧ (((hI σ 32 r 2) ≤ (nI a.length) → (Q (some (vi (-6))) σ ∧ σ.1 = σ.1)) ∧ (¬ (hI σ 32 r 2) ≤ (nI a.length) → (r < 12 ∧ (r < 12 ∧ (vp_in (nI a.length) 100 ∧ ((¬ (lg_cmp (hL σ 35 r ((nI a.length).toNatClampNeg)) (lN (anC x))) = 0 → Sat true d 13 σ.1 Q 2 [some (vr 32 r), some (vl (lN (anC x))), none, some (vi ((nI a.length) + nI 1))] [] σ) ∧ ((lg_cmp (hL σ 35 r ((nI a.length).toNatClampNeg)) (lN (anC x))) = 0 → (Q (some (vi (nI a.length))) σ ∧ σ.1 = σ.1)))))))))
      rw [h2, ix (by omega), y3, lg_cmp_eq, fb_lN_inj (by omega) (by omega), addN]
      refine ⟨hr, br_le (by omega) (by omega) (fun g => by omega) (fun _ => ⟨hr, hr, inb (by omega) (by omega), fun g => ?_, fun g => ?_⟩)⟩
      · rw [if_neg (fun q => g (by rw [q]))] at hq
        have kq := ih (a ++ [y]) (by rw [e, List.append_assoc]; rfl) Q (by rw [List.length_append]; exact hq)
        rw [List.length_append] at kq
        exact kq
      · rw [if_pos (anC_inj y5 hx g)] at hq
        exact ⟨hq, rfl⟩
  refine EI_of mt_13 (Nat.le_of_ble_eq_true rfl) fun Q hq => ?_
  refine wp_ok (cut := [2]) ma_13 rfl 2 _ _ _ _ ?_
  show Sat true d 13 σ.1 Q 2 [some (vr 32 r), some (vl (lN (anC x))), none, some (vi (nI 0))] [] σ
  exact loop hs [] rfl Q hq
