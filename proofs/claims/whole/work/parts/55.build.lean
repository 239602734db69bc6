/-! the class's Expansion.addPage from its entry, build, Site.expandAll -/
theorem ACon_all {σ : Hp} {P : Nat → List Line} {r : Nat} {u : Nat → Int32} (hr : r < 12) (hP : gP P) (ho : OutsC σ P) (d : Nat) : ∀ k, ACon σ P r u d k := by
  intro k
  induction k with
  | zero =>
    intro p add rest x h hk pre
    have := okSt_len pre.1
    rw [List.length_cons] at this
    omega
  | succ k ih =>
    intro p add rest x h hk pre
    obtain ⟨a1, a2, a3, a4, a5, a6, a7⟩ := pre
    have hp : p < 12 := a1.1 _ List.mem_cons_self
    refine PV_of mt_9 (Nat.le_of_ble_eq_true rfl) fun Q hq => ?_
    obtain ⟨x0, x1, x2, x8, x37, xhl, x100, x200⟩ := a3
    have lp := s_apLoop (Q := Q) d k ih hr hP ho hk a1 a2 hq (P p) [] x (setI h 32 r 9 (hI h 32 r 9 ||| bit p)) rfl ⟨by simp (disch := omega) only [hI_s, hI_k, hI_f, hI_sL, hL_sI, hL_s, hL_k, hL_f]; exact x0, by simp (disch := omega) only [hI_s, hI_k, hI_f, hI_sL, hL_sI, hL_s, hL_k, hL_f]; exact x1, ⟨by simp (disch := omega) only [hI_s, hI_k, hI_f, hI_sL, hL_sI, hL_s, hL_k, hL_f]; exact x2.1, x2.2.1, ?_⟩, by simp (disch := omega) only [hI_s, hI_k, hI_f, hI_sL, hL_sI, hL_s, hL_k, hL_f]; exact x8, by simp (disch := omega) only [hI_s, hI_k, hI_f, hI_sL, hL_sI, hL_s, hL_k, hL_f]; exact x37, xhl, x100, x200⟩ ?_ (a5.sI (f := 32) ⟨by omega, rfl⟩ _ _) a7 (fun _ => rfl) (Or.inl (xTo.rfl' _))
    · refine wp_ok (cut := [31]) ma_9 rfl 19 _ _ _ _ ?_
      show (((nI rest.length) < (nI 12) → (vp_in (nI p) 12 ∧ (r < 12 ∧ (r < 12 ∧ Sat true (d + k + 3 + 1) 9 h.1 Q 31 [some (vr 32 r), some (vr 18 0), some (vi (nI p)), some (vi (nI add)), some (vi (nI rest.length)), some (vr 21 ((nI p).toNatClampNeg)), some (vi (nI 0)), some (vi (nI 0)), none] [] (setI h 32 r 9 ((hI h 32 r 9) ||| ((nI 1) <<< ((nI p) &&& 31)))))))) ∧ (¬ (nI rest.length) < (nI 12) → (Q none h ∧ h.1 = h.1)))
      simp only [hr, true_and]
      rw [ix (by omega)]
      rw [← a5.1] at lp
      exact br_lt (by omega) (by omega) (fun g => ⟨inb (by omega) (by omega), lp⟩) (fun g => by omega)
    · exact All_mo x2.2.2 fun j y _ k => ⟨by simp (disch := omega) only [hI_s, hI_k, hI_f, hI_sL, hL_sI, hL_s, hL_k, hL_f]; exact k.1, by simp (disch := omega) only [hI_s, hI_k, hI_f, hI_sL, hL_sI, hL_s, hL_k, hL_f]; exact k.2.1, k.2.2.1, by simp (disch := omega) only [hI_s, hI_k, hI_f, hI_sL, hL_sI, hL_s, hL_k, hL_f]; exact k.2.2.2.1, k.2.2.2.2⟩
    · intro q hq12
      rw [hI_s, bt_or, a4 q hq12, bt_bit p hp q (by omega), onSt_cons]
      by_cases e : q = p
      · subst e
        rw [decide_eq_true rfl, Nat.beq_refl, Bool.or_true, Bool.true_or]
      · rw [decide_eq_false e, Bool.or_false]
        have : Nat.beq p q = false := by
          cases w : Nat.beq p q with
          | false => rfl
          | true => exact absurd (Nat.eq_of_beq_eq_true w).symm e
        rw [this, Bool.false_or]
theorem hoF_pt : ∀ (hs : List Hd) (u v : Nat → Int32) (k j : Nat), u j = v j → hoF u k hs j = hoF v k hs j := by
  intro hs
  induction hs with
  | nil => intro u v k j e; exact e
  | cons x r ih =>
    intro u v k j e
    refine ih _ _ (k + 1) j ?_
    cases x.2.2.2 with
    | none => exact e
    | some s =>
      show upd u s (nI k) j = upd v s (nI k) j
      unfold upd
      rw [e]
/-- the expansion of the page r, at its end -/
def XFin (P : Nat → List Line) (r : Nat) (x : XA) : Prop := ∃ st, xTo P ([(r, 0, 0)], (0, 0, [], 0)) (st, x) ∧ xStep P (st, x) = none
theorem XFin_one {P : Nat → List Line} {r : Nat} {x y : XA} (a : XFin P r x) (b : XFin P r y) : x = y := by
  obtain ⟨s, ⟨n, a1⟩, a2⟩ := a
  obtain ⟨t, ⟨m, b1⟩, b2⟩ := b
  exact congrArg Prod.snd (xFin_one n m _ _ _ a1 a2 b1 b2).2
/-- what the class keeps of it -/
def ExC (h : Hp) (P : Nat → List Line) (r : Nat) (x : XA) : Prop := hI h 32 r 0 = nI x.1 ∧ hI h 32 r 1 = x.2.1 ∧ HsC h r x.2.2.1 ∧ (∀ j, j < nHd (P r) → hI h 37 r j = hoF (fun _ => (-6)) 0 x.2.2.1 j) ∧ x.2.2.1.length ≤ x.1 ∧ x.1 ≤ 100 ∧ x.2.2.2 ≤ 200
def ExF (f _ : Nat) : Prop := 32 ≤ f ∧ f ≤ 37
theorem e_build (d : Nat) {σ : Hp} {P : Nat → List Line} {r : Nat} (hr : r < 12) (hP : gP P) (ho : OutsC σ P) : PV (d + 16) 8 [vr 32 r, vr 18 0, vi (nI r)] σ (fun h => (∃ x, XFin P r x ∧ ExC h P r x) ∧ Fr (EF r) σ h) := by
  refine PV_of mt_8 (Nat.le_of_ble_eq_true rfl) fun Q hq => ?_
  have o13 : hI σ 21 r 13 = nI (nHd (P r)) := by
    rw [(ho r hr).2.2.2.2.2.1]
    have e : (secs (P r)).length = 0 + nHd (P r) := secs_len (P r) []
    rw [e, Nat.zero_add]
  have hnb := nHd_b (hP r hr).1
  have h160 := (hP r hr).2
  have lp : ∀ n i, i + n = nHd (P r) → ∀ h, Fr (EF r) σ h → hI h 32 r 0 = nI 0 → hI h 32 r 1 = 0 → hI h 32 r 2 = nI 0 → hI h 32 r 8 = nI 0 → hI h 32 r 9 = 0 → (∀ j, j < i → hI h 37 r j = (-6)) → Sat true (d + 16) 8 σ.1 Q 27 [some (vr 32 r), some (vr 18 0), some (vi (nI r)), some (vi (nI i))] [] h := by
    intro n
    induction n with
    | zero =>
      intro i hi h hf z0 z1 z2 z8 z9 zz
      have h13 : hI h 21 r 13 = nI (nHd (P r)) := by rw [(hf.2 21 r (fun w => by have := w.1; omega)).1]; exact o13
      refine wp_ok (cut := [27]) ma_8 rfl 13 _ _ _ _ ?_
      show (vp_in (nI r) 12 ∧ ((nI r).toNatClampNeg < 12 ∧ (((hI h 21 ((nI r).toNatClampNeg) 13) ≤ (nI i) → (r < 12 ∧ CalV true (d + 15) 9 [vr 32 r, vr 18 0, vi (nI r), vi (nI 0), vi (nI 0)] h σ.1 (fun s1 => (Q none s1 ∧ s1.1 = σ.1)))) ∧ (¬ (hI h 21 ((nI r).toNatClampNeg) 13) ≤ (nI i) → (r < 12 ∧ (r < 12 ∧ (vp_in (nI i) 53 ∧ Sat true (d + 16) 8 σ.1 Q 27 [some (vr 32 r), some (vr 18 0), some (vi (nI r)), some (vi ((nI i) + nI 1))] [] (setI h 37 r ((nI i).toNatClampNeg) (-6)))))))))
      simp only [hr, true_and]
      rw [ix (by omega), h13]
      refine ⟨inb (by omega) (by omega), hr, br_le (by omega) (by omega) (fun _ => ?_) (fun g => by omega)⟩
      have con := ACon_all (σ := σ) (u := hI h 37 r) hr hP ho d 12 r 0 [] (0, 0, [], 0) h rfl ⟨⟨fun e he => ?_, ?_⟩, Nat.le_refl _, ⟨z0, z1, ⟨z2, Nat.zero_le _, All_nil⟩, z8, rfl, Nat.le_refl _, Nat.zero_le _, Nat.zero_le _⟩, fun q hq12 => ?_, hf, Nat.zero_lt_succ _, fun _ => rfl⟩
      · refine cp_v con hf.1 (fun h2 q4 e4 => ⟨hq h2 ?_, e4⟩)
        obtain ⟨x, y1, y2, y3, y4, y5⟩ := q4
        obtain ⟨x0, x1, x2, x8, x37, xhl, x100, x200⟩ := y1
        refine ⟨⟨x, ?_, x0, x1, x2, fun j hj => ?_, xhl, x100, x200⟩, y3⟩
        · rcases y5 with ⟨_, w⟩ | ⟨_, st, w⟩
          · exact ⟨[], w, rfl⟩
          · exact ⟨st, w⟩
        · rw [x37]
          exact hoF_pt _ _ _ _ _ (zz j (by omega))
      · cases he with
        | head => exact hr
        | tail _ g => cases g
      · exact List.nodup_cons.mpr ⟨fun g => (by cases g), List.nodup_nil⟩
      · rw [z9]
        show bt 0 q = false
        unfold bt
        exact BitVec.getLsbD_zero
    | succ n ih =>
      intro i hi h hf z0 z1 z2 z8 z9 zz
      have h13 : hI h 21 r 13 = nI (nHd (P r)) := by rw [(hf.2 21 r (fun w => by have := w.1; omega)).1]; exact o13
      refine wp_ok (cut := [27]) ma_8 rfl 13 _ _ _ _ ?_
      show (vp_in (nI r) 12 ∧ ((nI r).toNatClampNeg < 12 ∧ (((hI h 21 ((nI r).toNatClampNeg) 13) ≤ (nI i) → (r < 12 ∧ CalV true (d + 15) 9 [vr 32 r, vr 18 0, vi (nI r), vi (nI 0), vi (nI 0)] h σ.1 (fun s1 => (Q none s1 ∧ s1.1 = σ.1)))) ∧ (¬ (hI h 21 ((nI r).toNatClampNeg) 13) ≤ (nI i) → (r < 12 ∧ (r < 12 ∧ (vp_in (nI i) 53 ∧ Sat true (d + 16) 8 σ.1 Q 27 [some (vr 32 r), some (vr 18 0), some (vi (nI r)), some (vi ((nI i) + nI 1))] [] (setI h 37 r ((nI i).toNatClampNeg) (-6)))))))))
      simp only [hr, true_and]
      rw [ix (by omega), h13, addN]
      refine ⟨inb (by omega) (by omega), hr, br_le (by omega) (by omega) (fun g => by omega) (fun _ => ⟨inb (by omega) (by omega), ?_⟩)⟩
      refine ih (i + 1) (by omega) _ (hf.sI (f := 37) ⟨by omega, rfl⟩ _ _) (by simp (disch := omega) only [hI_s, hI_k, hI_f, hI_sL, hL_sI, hL_s, hL_k, hL_f]; exact z0) (by simp (disch := omega) only [hI_s, hI_k, hI_f, hI_sL, hL_sI, hL_s, hL_k, hL_f]; exact z1) (by simp (disch := omega) only [hI_s, hI_k, hI_f, hI_sL, hL_sI, hL_s, hL_k, hL_f]; exact z2) (by simp (disch := omega) only [hI_s, hI_k, hI_f, hI_sL, hL_sI, hL_s, hL_k, hL_f]; exact z8) (by simp (disch := omega) only [hI_s, hI_k, hI_f, hI_sL, hL_sI, hL_s, hL_k, hL_f]; exact z9) (fun j hj => ?_)
      by_cases e : j = i
      · subst e
        rw [ix (by omega), hI_s]
      · rw [ix (by omega), hI_k _ _ _ _ e]
        exact zz j (by omega)
  refine wp_ok (cut := [27]) ma_8 rfl 17 _ _ _ _ ?_
  show (r < 12 ∧ (r < 12 ∧ (r < 12 ∧ (r < 12 ∧ (r < 12 ∧ Sat true (d + 16) 8 σ.1 Q 27 [some (vr 32 r), some (vr 18 0), some (vi (nI r)), some (vi (nI 0))] [] (setI (setI (setI (setI (setI σ 32 r 0 (nI 0)) 32 r 1 (nI 0)) 32 r 2 (nI 0)) 32 r 8 (nI 0)) 32 r 9 (nI 0)))))))
  simp only [hr, true_and]
  refine lp (nHd (P r)) 0 (by omega) _ ?_ ?_ ?_ ?_ ?_ ?_ (fun j hj => absurd hj (Nat.not_lt_zero _))
  · exact (((((Fr.rfl' (EF r) σ).sI (f := 32) ⟨by omega, rfl⟩ _ _).sI (f := 32) ⟨by omega, rfl⟩ _ _).sI (f := 32) ⟨by omega, rfl⟩ _ _).sI (f := 32) ⟨by omega, rfl⟩ _ _).sI (f := 32) ⟨by omega, rfl⟩ _ _
  · simp (disch := omega) only [hI_s, hI_k, hI_f, hI_sL, hL_sI, hL_s, hL_k, hL_f]
  · simp (disch := omega) only [hI_s, hI_k, hI_f, hI_sL, hL_sI, hL_s, hL_k, hL_f]
    rfl
  · simp (disch := omega) only [hI_s, hI_k, hI_f, hI_sL, hL_sI, hL_s, hL_k, hL_f]
  · simp (disch := omega) only [hI_s, hI_k, hI_f, hI_sL, hL_sI, hL_s, hL_k, hL_f]
  · simp (disch := omega) only [hI_s, hI_k, hI_f, hI_sL, hL_sI, hL_s, hL_k, hL_f]
    rfl
/-- the expansions of all pages -/
def ExsC (h : Hp) (P : Nat → List Line) : Prop := ∀ r, r < 12 → ∃ x, XFin P r x ∧ ExC h P r x
theorem ExC_cong {h h' : Hp} {P : Nat → List Line} {r : Nat} {x : XA} (e : ∀ f, 32 ≤ f → f ≤ 37 → hI h' f r = hI h f r ∧ hL h' f r = hL h f r) (k : ExC h P r x) : ExC h' P r x := by
  obtain ⟨a0, a1, ⟨b0, b1, b2⟩, a3, a4⟩ := k
  refine ⟨by rw [(e 32 (by omega) (by omega)).1]; exact a0, by rw [(e 32 (by omega) (by omega)).1]; exact a1, ⟨by rw [(e 32 (by omega) (by omega)).1]; exact b0, b1, ?_⟩, fun j hj => by rw [(e 37 (by omega) (by omega)).1]; exact a3 j hj, a4⟩
  exact All_mo b2 fun j y _ k => ⟨by rw [(e 33 (by omega) (by omega)).1]; exact k.1, by rw [(e 34 (by omega) (by omega)).1]; exact k.2.1, by rw [(e 35 (by omega) (by omega)).2]; exact k.2.2.1, by rw [(e 36 (by omega) (by omega)).1]; exact k.2.2.2.1, k.2.2.2.2⟩
theorem e_expandAll (d : Nat) {σ : Hp} {P : Nat → List Line} (hP : gP P) (ho : OutsC σ P) : PV (d + 17) 52 [vr 7 0] σ (fun h => ExsC h P ∧ Fr ExF σ h) := by
  refine PV_of mt_52 (Nat.le_of_ble_eq_true rfl) fun Q hq => ?_
  have lp : ∀ n i, i + n = 12 → ∀ h, Fr ExF σ h → (∀ r, r < i → ∃ x, XFin P r x ∧ ExC h P r x) → Sat true (d + 17) 52 σ.1 Q 2 [some (vr 7 0), some (vi (nI i))] [] h := by
    intro n
    induction n with
    | zero =>
      intro i hi h hf zz
      refine wp_ok (cut := [2]) ma_52 rfl 13 _ _ _ _ ?_
      show (((nI 12) ≤ (nI i) → (Q none h ∧ h.1 = σ.1)) ∧ (¬ (nI 12) ≤ (nI i) → (vp_in (nI i) 12 ∧ ((nI i).toNatClampNeg < 12 ∧ CalV true (d + 16) 8 [vr 32 ((nI i).toNatClampNeg), vr 18 0, vi (nI i)] h σ.1 (fun s1 => Sat true (d + 17) 52 σ.1 Q 2 [some (vr 7 0), some (vi ((nI i) + nI 1))] [] s1)))))
      exact br_le (by omega) (by omega) (fun _ => ⟨hq h ⟨fun r hr => zz r (by omega), hf⟩, hf.1⟩) (fun g => by omega)
    | succ n ih =>
      intro i hi h hf zz
      have ho2 : OutsC h P := fun q hq => OI_cong (fun k _ => by rw [(hf.2 21 q (fun w => by have := w.1; omega)).1]) (fun f f1 f2 _ => by have := hf.2 f q (fun w => by have := w.1; omega); exact ⟨this.1, this.2.1⟩) (ho q hq)
      refine wp_ok (cut := [2]) ma_52 rfl 13 _ _ _ _ ?_
      show (((nI 12) ≤ (nI i) → (Q none h ∧ h.1 = σ.1)) ∧ (¬ (nI 12) ≤ (nI i) → (vp_in (nI i) 12 ∧ ((nI i).toNatClampNeg < 12 ∧ CalV true (d + 16) 8 [vr 32 ((nI i).toNatClampNeg), vr 18 0, vi (nI i)] h σ.1 (fun s1 => Sat true (d + 17) 52 σ.1 Q 2 [some (vr 7 0), some (vi ((nI i) + nI 1))] [] s1)))))
      rw [ix (by omega), addN]
      refine br_le (by omega) (by omega) (fun g => by omega) (fun _ => ⟨inb (by omega) (by omega), by omega, cp_v (e_build d (by omega) hP ho2) hf.1 (fun h2 q4 e4 => ?_)⟩)
      refine ih (i + 1) (by omega) h2 (hf.tr (q4.2.mo fun f p w => w.1)) (fun r hr => ?_)
      by_cases e : r = i
      · subst e
        exact q4.1
      · obtain ⟨x, w1, w2⟩ := zz r (by omega)
        exact ⟨x, w1, ExC_cong (fun f f1 f2 => by have := q4.2.2 f r (fun w => e w.2); exact ⟨this.1, this.2.1⟩) w2⟩
  refine wp_ok (cut := [2]) ma_52 rfl 2 _ _ _ _ ?_
  show Sat true (d + 17) 52 σ.1 Q 2 [some (vr 7 0), some (vi (nI 0))] [] σ
  exact lp 12 0 (by omega) σ (Fr.rfl' _ _) (fun r hr => absurd hr (Nat.not_lt_zero _))
