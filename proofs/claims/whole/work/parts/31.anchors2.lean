/-! the class's Anchors: places and spelling -/
theorem sm_rest {w : List Nat} (h : gRest w) : ∀ y ∈ w, y < 128 ∧ y ≠ 35 ∧ y ≠ 45 ∧ y ≠ 59 ∧ y ≠ 91 ∧ y ≠ 93 ∧ y ≠ 61 ∧ y ≠ 123 ∧ y ≠ 62 := fun y hy => by
  rcases h y hy with ⟨h1, h2⟩ | ⟨h1, h2⟩ <;> omega
/-- the digits behind the dash, read -/
def dgV : List Nat → Nat → Nat
  | [], k => k
  | c :: r, k => dgV r (k * 10 + (c - 48))
theorem txNum_dg {k : Nat} (h : k ≤ 99) : (k = 0 ∧ txNum k = []) ∨ (∃ r, txNum k = 45 :: r ∧ dgV r 0 = k ∧ r.length ≤ 2 ∧ r ≠ [] ∧ ∀ c ∈ r, isDg c) := by
  unfold txNum
  by_cases h0 : k = 0
  · exact Or.inl ⟨h0, if_pos h0⟩
  · refine Or.inr ?_
    rw [if_neg h0]
    by_cases h1 : k < 10
    · rw [if_pos h1]
      refine ⟨[48 + k], rfl, ?_, Nat.le_of_ble_eq_true rfl, fun q => (by cases q), fun c hc => ?_⟩
      · show 0 * 10 + (48 + k - 48) = k; omega
      · rw [List.mem_singleton.mp hc]; unfold isDg; omega
    · rw [if_neg h1]
      refine ⟨[48 + k / 10, 48 + k % 10], rfl, ?_, Nat.le_of_ble_eq_true rfl, fun q => (by cases q), fun c hc => ?_⟩
      · show (0 * 10 + (48 + k / 10 - 48)) * 10 + (48 + k % 10 - 48) = k; omega
      · rcases List.mem_cons.mp hc with q | q
        · rw [q]; unfold isDg; omega
        · rw [List.mem_singleton.mp q]; unfold isDg; omega
theorem txAnc_len {a : Anc} (h : gAnc a) : (txAnc a).length ≤ 11 ∧ 1 ≤ (txAnc a).length := by
  have h1 := gName_r h.1
  unfold txAnc
  rw [List.length_append]
  rcases txNum_dg h.2 with ⟨_, e⟩ | ⟨r, e, _, l, _⟩
  · rw [e, List.length_nil]; omega
  · rw [e, List.length_cons]; omega
theorem txNum_s {k : Nat} (h : k ≤ 99) : ∀ y ∈ txNum k, y = 45 ∨ isDg y := by
  rcases txNum_dg h with ⟨_, e⟩ | ⟨r, e, _, _, _, g⟩
  · rw [e]; intro y hy; cases hy
  · rw [e]; intro y hy
    rcases List.mem_cons.mp hy with q | q
    · exact Or.inl q
    · exact Or.inr (g y q)
theorem txAnc_s {a : Anc} (h : gAnc a) : ∀ y ∈ txAnc a, 45 ≤ y ∧ y < 128 ∧ y ≠ 59 ∧ y ≠ 91 ∧ y ≠ 93 ∧ y ≠ 61 ∧ y ≠ 123 ∧ y ≠ 62 := fun y hy => by
  rcases List.mem_append.mp hy with q | q
  · have := (gName_r h.1).1 y q
    rcases this with ⟨h1, h2⟩ | ⟨h1, h2⟩ <;> omega
  · rcases txNum_s h.2 y q with e | ⟨h1, h2⟩
    · omega
    · omega
theorem s_digits2 (d : Nat) (σ : Hp) (fr : Int32) {w : List Nat} {g x : Nat} (hw : gName w) (ht : Tx (hI σ 2 0) (g + 1) w) {dd : Nat} (hd : dd = g + 1 + w.length) (hdN : dd ≤ 160) {kk : Nat} (hkk : kk ≤ 99) : ∀ (r : List Nat) (a k : Nat), (∀ c ∈ r, isDg c) → dgV r k = kk → (∀ j, j ≤ r.length → k ≤ 99) → Tx (hI σ 2 0) a r → a + r.length = x → x ≤ 160 → ∀ Q : Option AV → Hp → Prop, Q (some (vl (lN (anC (w, kk))))) σ → Sat true (d + 1) 3 σ.1 Q 35 [some (vr 2 0), some (vi fr), some (vi (nI x)), some (vi (nI g)), some (vi (nI dd)), some (vi (nI k)), some (vi (nI a))] [] σ := by
  intro r
  induction r with
  | nil =>
    intro a k hc hk hb ht2 hx hN Q hq
    have hx : a = x := hx
    have hk : k = kk := hk
    subst hk
    subst hx
    refine wp_ok (cut := [35]) ma_3 rfl 15 _ _ _ _ ?_
    show (((nI a) ≤ (nI a) → CalL true d 0 [vr 2 0, vi ((nI g) + (nI 1)), vi (nI dd)] σ σ.1 (fun x2 s1 => CalL true d 1 [vl x2, vi (nI k)] s1 σ.1 (fun x4 s3 => (Q (some (vl x4)) s3 ∧ s3.1 = σ.1)))) ∧ (¬ (nI a) ≤ (nI a) → (vp_in (nI a) 160 ∧ Sat true (d + 1) 3 σ.1 Q 35 [some (vr 2 0), some (vi fr), some (vi (nI a)), some (vi (nI g)), some (vi (nI dd)), some (vi (((nI k) * (nI 10)) + ((hI σ 2 0 ((nI a).toNatClampNeg)) - (nI 48)))), some (vi ((nI a) + nI 1))] [] σ)))
    refine br_le (by omega) (by omega) (fun _ => ?_) (fun h => by omega)
    rw [addN]
    exact cal_l (e_nameIn2 d hw ht hd hdN) rfl (cal_l (e_numbered d σ hw hkk) rfl ⟨hq, rfl⟩)
  | cons c r ih =>
    intro a k hc hk hb ht2 hx hN Q hq
    obtain ⟨t1, t2⟩ := ht2
    rw [List.length_cons] at hx
    have hcd : isDg c := hc c List.mem_cons_self
    obtain ⟨c1, c2⟩ := hcd
    have k99 := hb 0 (Nat.zero_le _)
    have mono : ∀ (r : List Nat) (k : Nat), k ≤ dgV r k := by
      intro r
      induction r with
      | nil => intro k; exact Nat.le_refl _
      | cons c r ih => intro k; exact Nat.le_trans (by omega) (ih (k * 10 + (c - 48)))
    have := mono r (k * 10 + (c - 48))
    have hk' : dgV r (k * 10 + (c - 48)) = kk := hk
    have kq := ih (a + 1) (k * 10 + (c - 48)) (fun y hy => hc y (List.mem_cons_of_mem _ hy)) hk (fun _ _ => by omega) t2 (by omega) hN Q hq
    refine wp_ok (cut := [35]) ma_3 rfl 15 _ _ _ _ ?_
    show (((nI x) ≤ (nI a) → CalL true d 0 [vr 2 0, vi ((nI g) + (nI 1)), vi (nI dd)] σ σ.1 (fun x2 s1 => CalL true d 1 [vl x2, vi (nI k)] s1 σ.1 (fun x4 s3 => (Q (some (vl x4)) s3 ∧ s3.1 = σ.1)))) ∧ (¬ (nI x) ≤ (nI a) → (vp_in (nI a) 160 ∧ Sat true (d + 1) 3 σ.1 Q 35 [some (vr 2 0), some (vi fr), some (vi (nI x)), some (vi (nI g)), some (vi (nI dd)), some (vi (((nI k) * (nI 10)) + ((hI σ 2 0 ((nI a).toNatClampNeg)) - (nI 48)))), some (vi ((nI a) + nI 1))] [] σ)))
    refine br_le (by omega) (by omega) (fun h => by omega) (fun _ => ?_)
    rw [ix (by omega), t1, addN, subN (by omega), mulN, addN]
    exact ⟨inb (by omega) (by omega), kq⟩
/-- the anchor of a place: a letter or none, then # and the anchor, or nothing -/
theorem e_placeAnchor2 (d : Nat) {σ : Hp} {l : Option Nat} {o : Option Anc} (hl : ∀ p, l = some p → p < 12) (ho : gAO o) {a x : Nat} (ht : Tx (hI σ 2 0) a (txLink l o)) (hx : x = a + (txLink l o).length) (hN : x ≤ 160) : EL (d + 2) 3 [vr 2 0, vi (nI a), vi (nI x)] σ (lN (anO o)) σ := by
  refine EL_of mt_3 (Nat.le_of_ble_eq_true rfl) fun Q hq => ?_
  have hlet : ∀ y ∈ txLet l, y < 128 ∧ y ≠ 35 := by
    intro y hy
    cases l with
    | none => cases hy
    | some p =>
      have := hl p rfl
      rw [List.mem_singleton.mp hy]
      omega
  have hll : (txLet l).length ≤ 1 := by cases l <;> exact Nat.le_of_ble_eq_true rfl
  unfold txLink at ht hx
  obtain ⟨ht1, ht2⟩ := Tx_app.mp ht
  rw [List.length_append] at hx
  cases o with
  | none =>
    have hx : x = a + (txLet l).length := hx
    refine wp_ok (cut := [35]) ma_3 rfl 21 _ _ _ _ ?_
    show CalI true (d + 1) 4 [vr 2 0, vi (nI a), vi (nI x), vi (nI 35)] σ σ.1 (fun x2 s1 => ((x2 < (nI x) → CalI true (d + 1) 4 [vr 2 0, vi x2, vi (nI x), vi (nI 45)] s1 σ.1 (fun x4 s3 => Sat true (d + 2) 3 σ.1 Q 35 [some (vr 2 0), some (vi (nI a)), some (vi (nI x)), some (vi x2), some (vi x4), some (vi (nI 0)), some (vi (x4 + (nI 1)))] [] s3)) ∧ (¬ x2 < (nI x) → (Q (some (vl (lN 0))) s1 ∧ s1.1 = σ.1))))
    refine cal_i (e_indexOf2 (d + 1) (by decide) hlet ht1 (by omega) (fun h => by omega) hN) rfl ?_
    exact br_lt (by omega) (by omega) (fun h => by omega) (fun _ => ⟨hq, rfl⟩)
  | some z =>
    obtain ⟨w, kk⟩ := z
    obtain ⟨g1, g2⟩ := ho _ rfl
    dsimp only at g1 g2
    obtain ⟨ht3, ht4⟩ := ht2
    have ht4 : Tx (hI σ 2 0) (a + (txLet l).length + 1) (w ++ txNum kk) := ht4
    obtain ⟨ht5, ht6⟩ := Tx_app.mp ht4
    have hx : x = a + ((txLet l).length + (35 :: (w ++ txNum kk)).length) := hx
    rw [List.length_cons, List.length_append] at hx
    obtain ⟨n1, n2, n3⟩ := gName_r g1
    generalize hg : a + (txLet l).length = g at *
    have hnum : (txNum kk).length ≤ 3 := by
      rcases txNum_dg g2 with ⟨_, e⟩ | ⟨r, e, _, l, _⟩
      · rw [e]; decide
      · rw [e, List.length_cons]; omega
    have hlen : (35 :: w).length = w.length + 1 := rfl
    have T35 : Tx (hI σ 2 0) g (35 :: w) := ⟨ht3, ht5⟩
    have hdash : g + (35 :: w).length < x → hI σ 2 0 (g + (35 :: w).length) = nI 45 := by
      intro h
      rcases txNum_dg g2 with ⟨_, e⟩ | ⟨r, e, _, l, _⟩
      · rw [e, List.length_nil] at hx; omega
      · rw [e] at ht6
        rw [hlen, ← Nat.add_assoc, Nat.add_right_comm]
        exact ht6.1
    refine wp_ok (cut := [35]) ma_3 rfl 21 _ _ _ _ ?_
    show CalI true (d + 1) 4 [vr 2 0, vi (nI a), vi (nI x), vi (nI 35)] σ σ.1 (fun x2 s1 => ((x2 < (nI x) → CalI true (d + 1) 4 [vr 2 0, vi x2, vi (nI x), vi (nI 45)] s1 σ.1 (fun x4 s3 => Sat true (d + 2) 3 σ.1 Q 35 [some (vr 2 0), some (vi (nI a)), some (vi (nI x)), some (vi x2), some (vi x4), some (vi (nI 0)), some (vi (x4 + (nI 1)))] [] s3)) ∧ (¬ x2 < (nI x) → (Q (some (vl (lN 0))) s1 ∧ s1.1 = σ.1))))
    have c1 := e_indexOf2 (d + 1) (σ := σ) (c := 35) (by decide) hlet ht1 (x := x) (by omega) (fun _ => by rw [hg]; exact ht3) hN
    rw [hg] at c1
    refine cal_i c1 rfl ?_
    refine br_lt (by omega) (by omega) (fun h => ?_) (fun h => by omega)
    refine cal_i (e_indexOf2 (d + 1) (c := 45) (by decide) (w := 35 :: w) (fun y hy => ?_) T35 (by omega) hdash hN) rfl ?_
    · rcases List.mem_cons.mp hy with q | q
      · rw [q]; decide
      · have := sm_rest n1 y q
        exact ⟨this.1, this.2.2.1⟩
    · rw [addN]
      rcases txNum_dg g2 with ⟨e0, e⟩ | ⟨r, e, ev, lr, _, hr⟩
      · rw [e, List.length_nil] at hx
        have : Sat true (d + 1 + 1) 3 σ.1 Q 35 [some (vr 2 0), some (vi (nI a)), some (vi (nI x)), some (vi (nI g)), some (vi (nI (g + (35 :: w).length))), some (vi (nI 0)), some (vi (nI (g + (35 :: w).length + 1)))] [] σ := by
          refine wp_ok (cut := [35]) ma_3 rfl 15 _ _ _ _ ?_
          show (((nI x) ≤ (nI (g + (35 :: w).length + 1)) → CalL true (d + 1) 0 [vr 2 0, vi ((nI g) + (nI 1)), vi (nI (g + (35 :: w).length))] σ σ.1 (fun x2 s1 => CalL true (d + 1) 1 [vl x2, vi (nI 0)] s1 σ.1 (fun x4 s3 => (Q (some (vl x4)) s3 ∧ s3.1 = σ.1)))) ∧ (¬ (nI x) ≤ (nI (g + (35 :: w).length + 1)) → (vp_in (nI (g + (35 :: w).length + 1)) 160 ∧ Sat true (d + 2) 3 σ.1 Q 35 [some (vr 2 0), some (vi (nI a)), some (vi (nI x)), some (vi (nI g)), some (vi (nI (g + (35 :: w).length))), some (vi (((nI 0) * (nI 10)) + ((hI σ 2 0 ((nI (g + (35 :: w).length + 1)).toNatClampNeg)) - (nI 48)))), some (vi ((nI (g + (35 :: w).length + 1)) + nI 1))] [] σ)))
          refine br_le (by omega) (by omega) (fun _ => ?_) (fun h => by omega)
          rw [addN]
          refine cal_l (e_nameIn2 (d + 1) g1 ht5 (by omega) (by omega)) rfl (cal_l (e_numbered (d + 1) σ g1 (Nat.zero_le _)) rfl ⟨?_, rfl⟩)
          rw [e0] at hq
          exact hq
        exact this
      · rw [e, List.length_cons] at hx
        rw [e] at ht6
        refine s_digits2 (d + 1) σ (nI a) g1 ht5 (by omega) (by omega) g2 r (g + (35 :: w).length + 1) 0 hr ev (fun _ _ => by omega) ?_ (by omega) hN Q hq
        have := ht6.2
        rw [show g + (35 :: w).length + 1 = g + 1 + w.length + 1 by omega]
        exact this
theorem s_digits9 (d : Nat) (σ : Hp) (fr : Int32) {w : List Nat} {g x : Nat} (hw : gName w) (ht : Tx (hI σ 9 0) (g + 1) w) {dd : Nat} (hd : dd = g + 1 + w.length) (hdN : dd ≤ 1920) {kk : Nat} (hkk : kk ≤ 99) : ∀ (r : List Nat) (a k : Nat), (∀ c ∈ r, isDg c) → dgV r k = kk → (∀ j, j ≤ r.length → k ≤ 99) → Tx (hI σ 9 0) a r → a + r.length = x → x ≤ 1920 → ∀ Q : Option AV → Hp → Prop, Q (some (vl (lN (anC (w, kk))))) σ → Sat true (d + 1) 3 σ.1 Q 35 [some (vr 9 0), some (vi fr), some (vi (nI x)), some (vi (nI g)), some (vi (nI dd)), some (vi (nI k)), some (vi (nI a))] [] σ := by
  intro r
  induction r with
  | nil =>
    intro a k hc hk hb ht2 hx hN Q hq
    have hx : a = x := hx
    have hk : k = kk := hk
    subst hk
    subst hx
    refine wp_ok (cut := [35]) ma_3 rfl 15 _ _ _ _ ?_
    show (((nI a) ≤ (nI a) → CalL true d 0 [vr 9 0, vi ((nI g) + (nI 1)), vi (nI dd)] σ σ.1 (fun x2 s1 => CalL true d 1 [vl x2, vi (nI k)] s1 σ.1 (fun x4 s3 => (Q (some (vl x4)) s3 ∧ s3.1 = σ.1)))) ∧ (¬ (nI a) ≤ (nI a) → (vp_in (nI a) 1920 ∧ Sat true (d + 1) 3 σ.1 Q 35 [some (vr 9 0), some (vi fr), some (vi (nI a)), some (vi (nI g)), some (vi (nI dd)), some (vi (((nI k) * (nI 10)) + ((hI σ 9 0 ((nI a).toNatClampNeg)) - (nI 48)))), some (vi ((nI a) + nI 1))] [] σ)))
    refine br_le (by omega) (by omega) (fun _ => ?_) (fun h => by omega)
    rw [addN]
    exact cal_l (e_nameIn9 d hw ht hd hdN) rfl (cal_l (e_numbered d σ hw hkk) rfl ⟨hq, rfl⟩)
  | cons c r ih =>
    intro a k hc hk hb ht2 hx hN Q hq
    obtain ⟨t1, t2⟩ := ht2
    rw [List.length_cons] at hx
    have hcd : isDg c := hc c List.mem_cons_self
    obtain ⟨c1, c2⟩ := hcd
    have k99 := hb 0 (Nat.zero_le _)
    have mono : ∀ (r : List Nat) (k : Nat), k ≤ dgV r k := by
      intro r
      induction r with
      | nil => intro k; exact Nat.le_refl _
      | cons c r ih => intro k; exact Nat.le_trans (by omega) (ih (k * 10 + (c - 48)))
    have := mono r (k * 10 + (c - 48))
    have hk' : dgV r (k * 10 + (c - 48)) = kk := hk
    have kq := ih (a + 1) (k * 10 + (c - 48)) (fun y hy => hc y (List.mem_cons_of_mem _ hy)) hk (fun _ _ => by omega) t2 (by omega) hN Q hq
    refine wp_ok (cut := [35]) ma_3 rfl 15 _ _ _ _ ?_
    show (((nI x) ≤ (nI a) → CalL true d 0 [vr 9 0, vi ((nI g) + (nI 1)), vi (nI dd)] σ σ.1 (fun x2 s1 => CalL true d 1 [vl x2, vi (nI k)] s1 σ.1 (fun x4 s3 => (Q (some (vl x4)) s3 ∧ s3.1 = σ.1)))) ∧ (¬ (nI x) ≤ (nI a) → (vp_in (nI a) 1920 ∧ Sat true (d + 1) 3 σ.1 Q 35 [some (vr 9 0), some (vi fr), some (vi (nI x)), some (vi (nI g)), some (vi (nI dd)), some (vi (((nI k) * (nI 10)) + ((hI σ 9 0 ((nI a).toNatClampNeg)) - (nI 48)))), some (vi ((nI a) + nI 1))] [] σ)))
    refine br_le (by omega) (by omega) (fun h => by omega) (fun _ => ?_)
    rw [ix (by omega), t1, addN, subN (by omega), mulN, addN]
    exact ⟨inb (by omega) (by omega), kq⟩
/-- the anchor of a place: a letter or none, then # and the anchor, or nothing -/
theorem e_placeAnchor9 (d : Nat) {σ : Hp} {l : Option Nat} {o : Option Anc} (hl : ∀ p, l = some p → p < 12) (ho : gAO o) {a x : Nat} (ht : Tx (hI σ 9 0) a (txLink l o)) (hx : x = a + (txLink l o).length) (hN : x ≤ 1920) : EL (d + 2) 3 [vr 9 0, vi (nI a), vi (nI x)] σ (lN (anO o)) σ := by
  refine EL_of mt_3 (Nat.le_of_ble_eq_true rfl) fun Q hq => ?_
  have hlet : ∀ y ∈ txLet l, y < 128 ∧ y ≠ 35 := by
    intro y hy
    cases l with
    | none => cases hy
    | some p =>
      have := hl p rfl
      rw [List.mem_singleton.mp hy]
      omega
  have hll : (txLet l).length ≤ 1 := by cases l <;> exact Nat.le_of_ble_eq_true rfl
  unfold txLink at ht hx
  obtain ⟨ht1, ht2⟩ := Tx_app.mp ht
  rw [List.length_append] at hx
  cases o with
  | none =>
    have hx : x = a + (txLet l).length := hx
    refine wp_ok (cut := [35]) ma_3 rfl 21 _ _ _ _ ?_
    show CalI true (d + 1) 4 [vr 9 0, vi (nI a), vi (nI x), vi (nI 35)] σ σ.1 (fun x2 s1 => ((x2 < (nI x) → CalI true (d + 1) 4 [vr 9 0, vi x2, vi (nI x), vi (nI 45)] s1 σ.1 (fun x4 s3 => Sat true (d + 2) 3 σ.1 Q 35 [some (vr 9 0), some (vi (nI a)), some (vi (nI x)), some (vi x2), some (vi x4), some (vi (nI 0)), some (vi (x4 + (nI 1)))] [] s3)) ∧ (¬ x2 < (nI x) → (Q (some (vl (lN 0))) s1 ∧ s1.1 = σ.1))))
    refine cal_i (e_indexOf9 (d + 1) (by decide) hlet ht1 (by omega) (fun h => by omega) hN) rfl ?_
    exact br_lt (by omega) (by omega) (fun h => by omega) (fun _ => ⟨hq, rfl⟩)
  | some z =>
    obtain ⟨w, kk⟩ := z
    obtain ⟨g1, g2⟩ := ho _ rfl
    dsimp only at g1 g2
    obtain ⟨ht3, ht4⟩ := ht2
    have ht4 : Tx (hI σ 9 0) (a + (txLet l).length + 1) (w ++ txNum kk) := ht4
    obtain ⟨ht5, ht6⟩ := Tx_app.mp ht4
    have hx : x = a + ((txLet l).length + (35 :: (w ++ txNum kk)).length) := hx
    rw [List.length_cons, List.length_append] at hx
    obtain ⟨n1, n2, n3⟩ := gName_r g1
    generalize hg : a + (txLet l).length = g at *
    have hnum : (txNum kk).length ≤ 3 := by
      rcases txNum_dg g2 with ⟨_, e⟩ | ⟨r, e, _, l, _⟩
      · rw [e]; decide
      · rw [e, List.length_cons]; omega
    have hlen : (35 :: w).length = w.length + 1 := rfl
    have T35 : Tx (hI σ 9 0) g (35 :: w) := ⟨ht3, ht5⟩
    have hdash : g + (35 :: w).length < x → hI σ 9 0 (g + (35 :: w).length) = nI 45 := by
      intro h
      rcases txNum_dg g2 with ⟨_, e⟩ | ⟨r, e, _, l, _⟩
      · rw [e, List.length_nil] at hx; omega
      · rw [e] at ht6
        rw [hlen, ← Nat.add_assoc, Nat.add_right_comm]
        exact ht6.1
    refine wp_ok (cut := [35]) ma_3 rfl 21 _ _ _ _ ?_
    show CalI true (d + 1) 4 [vr 9 0, vi (nI a), vi (nI x), vi (nI 35)] σ σ.1 (fun x2 s1 => ((x2 < (nI x) → CalI true (d + 1) 4 [vr 9 0, vi x2, vi (nI x), vi (nI 45)] s1 σ.1 (fun x4 s3 => Sat true (d + 2) 3 σ.1 Q 35 [some (vr 9 0), some (vi (nI a)), some (vi (nI x)), some (vi x2), some (vi x4), some (vi (nI 0)), some (vi (x4 + (nI 1)))] [] s3)) ∧ (¬ x2 < (nI x) → (Q (some (vl (lN 0))) s1 ∧ s1.1 = σ.1))))
    have c1 := e_indexOf9 (d + 1) (σ := σ) (c := 35) (by decide) hlet ht1 (x := x) (by omega) (fun _ => by rw [hg]; exact ht3) hN
    rw [hg] at c1
    refine cal_i c1 rfl ?_
    refine br_lt (by omega) (by omega) (fun h => ?_) (fun h => by omega)
    refine cal_i (e_indexOf9 (d + 1) (c := 45) (by decide) (w := 35 :: w) (fun y hy => ?_) T35 (by omega) hdash hN) rfl ?_
    · rcases List.mem_cons.mp hy with q | q
      · rw [q]; decide
      · have := sm_rest n1 y q
        exact ⟨this.1, this.2.2.1⟩
    · rw [addN]
      rcases txNum_dg g2 with ⟨e0, e⟩ | ⟨r, e, ev, lr, _, hr⟩
      · rw [e, List.length_nil] at hx
        have : Sat true (d + 1 + 1) 3 σ.1 Q 35 [some (vr 9 0), some (vi (nI a)), some (vi (nI x)), some (vi (nI g)), some (vi (nI (g + (35 :: w).length))), some (vi (nI 0)), some (vi (nI (g + (35 :: w).length + 1)))] [] σ := by
          refine wp_ok (cut := [35]) ma_3 rfl 15 _ _ _ _ ?_
          show (((nI x) ≤ (nI (g + (35 :: w).length + 1)) → CalL true (d + 1) 0 [vr 9 0, vi ((nI g) + (nI 1)), vi (nI (g + (35 :: w).length))] σ σ.1 (fun x2 s1 => CalL true (d + 1) 1 [vl x2, vi (nI 0)] s1 σ.1 (fun x4 s3 => (Q (some (vl x4)) s3 ∧ s3.1 = σ.1)))) ∧ (¬ (nI x) ≤ (nI (g + (35 :: w).length + 1)) → (vp_in (nI (g + (35 :: w).length + 1)) 1920 ∧ Sat true (d + 2) 3 σ.1 Q 35 [some (vr 9 0), some (vi (nI a)), some (vi (nI x)), some (vi (nI g)), some (vi (nI (g + (35 :: w).length))), some (vi (((nI 0) * (nI 10)) + ((hI σ 9 0 ((nI (g + (35 :: w).length + 1)).toNatClampNeg)) - (nI 48)))), some (vi ((nI (g + (35 :: w).length + 1)) + nI 1))] [] σ)))
          refine br_le (by omega) (by omega) (fun _ => ?_) (fun h => by omega)
          rw [addN]
          refine cal_l (e_nameIn9 (d + 1) g1 ht5 (by omega) (by omega)) rfl (cal_l (e_numbered (d + 1) σ g1 (Nat.zero_le _)) rfl ⟨?_, rfl⟩)
          rw [e0] at hq
          exact hq
        exact this
      · rw [e, List.length_cons] at hx
        rw [e] at ht6
        refine s_digits9 (d + 1) σ (nI a) g1 ht5 (by omega) (by omega) g2 r (g + (35 :: w).length + 1) 0 hr ev (fun _ _ => by omega) ?_ (by omega) hN Q hq
        have := ht6.2
        rw [show g + (35 :: w).length + 1 = g + 1 + w.length + 1 by omega]
        exact this
