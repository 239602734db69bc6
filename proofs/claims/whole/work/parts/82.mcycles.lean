/-! cycles: the model -/
theorem bt_hi (m : Int32) {q : Nat} (h : 32 ≤ q) : bt m q = false := BitVec.getLsbD_of_ge _ _ h
theorem bit_lt {p q : Nat} (hp : p < 12) (h : bt (bit p) q = true) : q = p := by
  by_cases c : q < 32
  · rw [bt_bit p hp q c] at h
    exact of_decide_eq_true h
  · rw [bt_hi _ (by omega)] at h
    cases h
theorem mInc_lt : ∀ {ls : List Line} (m : Int32), gPg ls → (∀ q, bt m q = true → q < 12) → ∀ q, bt (ls.foldl stM m) q = true → q < 12 := by
  intro ls
  induction ls with
  | nil => intro m _ h; exact h
  | cons l r ih =>
    intro m hg h
    refine ih (stM m l) (fun l hl => hg l (List.mem_cons_of_mem _ hl)) fun q hq => ?_
    have gl := hg l List.mem_cons_self
    rcases l with _ | ⟨p, s⟩ | _
    · exact h q hq
    · have hq : bt (m ||| bit p) q = true := hq
      rw [bt_or, Bool.or_eq_true] at hq
      rcases hq with w | w
      · exact h q w
      · have := bit_lt gl.1 w
        have := gl.1
        omega
    · exact h q hq
theorem mInc_12 {ls : List Line} (hg : gPg ls) {q : Nat} (h : bt (mInc ls) q = true) : q < 12 := mInc_lt (nI 0) hg (fun q h => by rw [bt_0] at h; cases h) q h
def IcI (P : Nat → List Line) (p : Nat) (m b n : Int32) (q : Nat) : Prop := (∀ r, bt m r = true → r < 12 ∧ P r ≠ [] ∧ bt n r = true) ∧ (∀ r, bt m r = true → ∀ s, bt (mInc (P r)) s = true → bt n s = true) ∧ (∀ s, bt (mInc (P p)) s = true → bt n s = true) ∧ (∀ s, bt n s = true → s < 12 ∧ bt (incS P p) s = true) ∧ (∀ r, bt b r = true → bt m r = true) ∧ (m = b → ∀ r, r < q → bt n r = true → P r ≠ [] → bt m r = true)
theorem in1 (m : Int32) {q : Nat} (hq : q < 12) {A C : Prop} (h0 : bt m q = false → A) (h1 : bt m q = true → C) : (¬ m >>> (nI q &&& 31) &&& nI 1 = nI 1 → A) ∧ (m >>> (nI q &&& 31) &&& nI 1 = nI 1 → C) := by
  rw [in_s m hq]
  cases e : bt m q with
  | false => exact ⟨fun _ => h0 e, fun g => absurd g (by decide)⟩
  | true => exact ⟨fun g => absurd rfl g, fun _ => h1 e⟩
section
variable {σ : Hp} {P : Nat → List Line} {X : Nat → XA} {rs : List (Pl × Pl)} {es : List En} {Q : Option AV → Hp → Prop} {d : Nat}
theorem s_incPass (hP : gP P) (hS : ∀ q, q < 12 → SrcM σ q (P q)) (hI2 : ∀ q, q < 12 → hI σ 252 0 q = mInc (P q)) {p : Nat} (hp : p < 12) {b : Int32} (kq : ∀ m n, IcI P p m b n 12 → Sat true (d + 2) 163 σ.1 Q 12 [some (vr 233 0), some (vi (nI p)), some (vi m), some (vi b), some (vi n), none] [] σ) : ∀ (k q : Nat) (m n : Int32), q + k = 12 → IcI P p m b n q → Sat true (d + 2) 163 σ.1 Q 22 [some (vr 233 0), some (vi (nI p)), some (vi m), some (vi b), some (vi n), some (vi (nI q))] [] σ := by
  intro k
  induction k with
  | zero =>
    intro q m n hq hi
    have hq : q = 12 := hq
    subst hq
    refine wp_ok (cut := [12, 22]) ma_163 rfl 29 _ _ _ _ ?_
    show (((nI 12) ≤ (nI 12) → Sat true (d + 2) 163 σ.1 Q 12 [some (vr 233 0), some (vi (nI p)), some (vi m), some (vi b), some (vi n), some (vi (nI 12))] [] σ) ∧ (¬ (nI 12) ≤ (nI 12) → ((¬ ((n >>> ((nI 12) &&& 31)) &&& (nI 1)) = (nI 1) → Sat true (d + 2) 163 σ.1 Q 22 [some (vr 233 0), some (vi (nI p)), some (vi m), some (vi b), some (vi n), some (vi ((nI 12) + nI 1))] [] σ) ∧ (((n >>> ((nI 12) &&& 31)) &&& (nI 1)) = (nI 1) → CalI true (d + 1) 111 [vr 233 0, vi (nI 12)] σ σ.1 (fun x2 s1 => ((x2 = 0 → Sat true (d + 2) 163 σ.1 Q 22 [some (vr 233 0), some (vi (nI p)), some (vi m), some (vi b), some (vi n), some (vi ((nI 12) + nI 1))] [] s1) ∧ (¬ x2 = 0 → (vp_in (nI 12) 12 ∧ Sat true (d + 2) 163 σ.1 Q 22 [some (vr 233 0), some (vi (nI p)), some (vi (m ||| ((nI 1) <<< ((nI 12) &&& 31)))), some (vi b), some (vi (n ||| (hI s1 252 0 12))), some (vi ((nI 12) + nI 1))] [] s1))))))))
    exact ⟨fun _ => Sat_no 5 (kq m n hi), fun g => absurd (Int32.le_refl _) g⟩
  | succ k ih =>
    intro q m n hq hi
    have hq12 : q < 12 := by omega
    obtain ⟨i1, i2, i3, i4, i5, i6⟩ := hi
    have no : ¬ (bt n q = true ∧ P q ≠ []) → Sat true (d + 2) 163 σ.1 Q 22 [some (vr 233 0), some (vi (nI p)), some (vi m), some (vi b), some (vi n), some (vi (nI (q + 1)))] [] σ := fun c => ih (q + 1) m n (by omega) ⟨i1, i2, i3, i4, i5, fun e r hr h1 h2 => by
      by_cases w : r = q
      · rw [w] at h1 h2
        exact absurd ⟨h1, h2⟩ c
      · exact i6 e r (by omega) h1 h2⟩
    refine wp_ok (cut := [12, 22]) ma_163 rfl 29 _ _ _ _ ?_
    show (((nI 12) ≤ (nI q) → Sat true (d + 2) 163 σ.1 Q 12 [some (vr 233 0), some (vi (nI p)), some (vi m), some (vi b), some (vi n), some (vi (nI q))] [] σ) ∧ (¬ (nI 12) ≤ (nI q) → ((¬ ((n >>> ((nI q) &&& 31)) &&& (nI 1)) = (nI 1) → Sat true (d + 2) 163 σ.1 Q 22 [some (vr 233 0), some (vi (nI p)), some (vi m), some (vi b), some (vi n), some (vi ((nI q) + nI 1))] [] σ) ∧ (((n >>> ((nI q) &&& 31)) &&& (nI 1)) = (nI 1) → CalI true (d + 1) 111 [vr 233 0, vi (nI q)] σ σ.1 (fun x2 s1 => ((x2 = 0 → Sat true (d + 2) 163 σ.1 Q 22 [some (vr 233 0), some (vi (nI p)), some (vi m), some (vi b), some (vi n), some (vi ((nI q) + nI 1))] [] s1) ∧ (¬ x2 = 0 → (vp_in (nI q) 12 ∧ Sat true (d + 2) 163 σ.1 Q 22 [some (vr 233 0), some (vi (nI p)), some (vi (m ||| ((nI 1) <<< ((nI q) &&& 31)))), some (vi b), some (vi (n ||| (hI s1 252 0 ((nI q).toNatClampNeg)))), some (vi ((nI q) + nI 1))] [] s1))))))))
    rw [addN]
    refine br_le (by omega) (by omega) (fun g => by omega) (fun _ => in1 n hq12 (fun g => no fun c => by rw [g] at c; cases c.1) (fun g => cal_i (m_has d hq12 (hS q hq12)) rfl (brI (fun g2 => no fun c => c.2 (pnil g2)) (fun g2 => ⟨inb hq12 (by omega), ?_⟩))))
    have hne := of_decide_eq_true g2
    rw [ix (by omega), hI2 q hq12]
    refine ih (q + 1) (m ||| bit q) (n ||| mInc (P q)) (by omega) ⟨fun r hr => ?_, fun r hr s hs => ?_, fun s hs => ?_, fun s hs => ?_, fun r hr => ?_, fun e r hr h1 h2 => ?_⟩
    · rw [bt_or, Bool.or_eq_true] at hr
      rw [bt_or, Bool.or_eq_true]
      rcases hr with w | w
      · have := i1 r w
        exact ⟨this.1, this.2.1, Or.inl this.2.2⟩
      · have e := bit_lt hq12 w
        rw [e]
        exact ⟨hq12, hne, Or.inl g⟩
    · rw [bt_or, Bool.or_eq_true] at hr ⊢
      rcases hr with w | w
      · exact Or.inl (i2 r w s hs)
      · have e := bit_lt hq12 w
        rw [e] at hs
        exact Or.inr hs
    · rw [bt_or, Bool.or_eq_true]
      exact Or.inl (i3 s hs)
    · rw [bt_or, Bool.or_eq_true] at hs
      rcases hs with w | w
      · exact i4 s w
      · have h12 := mInc_12 (hP q hq12).1 w
        exact ⟨h12, cl_closed hq12 h12 (i4 q g).2 w⟩
    · rw [bt_or, Bool.or_eq_true]
      exact Or.inl (i5 r hr)
    · have em : m = b := by
        refine bt_ext fun z _ => ?_
        rw [Bool.eq_iff_iff]
        refine ⟨fun w => ?_, i5 z⟩
        rw [← e, bt_or, w]
        rfl
      have mq : bt m q = true := by
        have : bt (m ||| bit q) q = true := by
          rw [bt_or, bt_bit q hq12 q (by omega), decide_eq_true rfl, Bool.or_true]
        rw [e, ← em] at this
        exact this
      rw [bt_or, Bool.or_eq_true]
      by_cases w : r = q
      · rw [w]; exact Or.inl mq
      · refine Or.inl (i6 em r (by omega) ?_ h2)
        rw [bt_or, Bool.or_eq_true] at h1
        rcases h1 with w2 | w2
        · exact w2
        · exact i2 q mq r w2
theorem m_included (d : Nat) (hP : gP P) (hS : ∀ q, q < 12 → SrcM σ q (P q)) (hI2 : ∀ q, q < 12 → hI σ 252 0 q = mInc (P q)) {p : Nat} (hp : p < 12) : EI (d + 2) 163 [vr 233 0, vi (nI p)] σ (mkM (fun q => bt (incS P p) q && decide (P q ≠ [])) 12) σ := by
  refine EI_of mt_163 (Nat.le_of_ble_eq_true rfl) fun Q hq => ?_
  have ex : ∀ m n : Int32, IcI P p m m n 12 → Sat true (d + 2) 163 σ.1 Q 12 [some (vr 233 0), some (vi (nI p)), some (vi m), some (vi m), some (vi n), none] [] σ := by
    intro m n hi
    obtain ⟨i1, i2, i3, i4, i5, i6⟩ := hi
    have e : mkM (fun q => bt (incS P p) q && decide (P q ≠ [])) 12 = m := by
      refine bt_ext fun z hz => ?_
      rw [mkM_bt _ 12 (by omega) z hz, Bool.eq_iff_iff, Bool.and_eq_true, Bool.and_eq_true]
      constructor
      · rintro ⟨w1, w2, w3⟩
        refine i6 rfl z (of_decide_eq_true w1) ?_ (of_decide_eq_true w3)
        refine cl_min (T := fun r => bt n r = true) i3 (fun q r hq hn hr => ?_) 11 z w2
        by_cases c : P q = []
        · have hr : bt (mInc (P q)) r = true := hr
          rw [c] at hr
          have hr : bt (nI 0) r = true := hr
          rw [bt_0] at hr
          cases hr
        · exact i2 q (i6 rfl q hq hn c) r hr
      · intro w
        obtain ⟨w1, w2, w3⟩ := i1 z w
        exact ⟨decide_eq_true w1, (i4 z w3).2, decide_eq_true w2⟩
    rw [e] at hq
    refine wp_ok (cut := [12, 22]) ma_163 rfl 7 _ _ _ _ ?_
    show ((m = m → (Q (some (vi m)) σ ∧ σ.1 = σ.1)) ∧ (¬ m = m → Sat true (d + 2) 163 σ.1 Q 22 [some (vr 233 0), some (vi (nI p)), some (vi m), some (vi m), some (vi n), some (vi (nI 0))] [] σ))
    exact ⟨fun _ => ⟨hq, rfl⟩, fun g => absurd rfl g⟩
  have outer : ∀ (k : Nat) (m b n : Int32), 12 ≤ cnB (bt m) 12 + k → m ≠ b → IcI P p m m n 0 → Sat true (d + 2) 163 σ.1 Q 12 [some (vr 233 0), some (vi (nI p)), some (vi m), some (vi b), some (vi n), none] [] σ := by
    intro k
    induction k with
    | zero =>
      intro m b n hk hb hi
      refine wp_ok (cut := [12, 22]) ma_163 rfl 7 _ _ _ _ ?_
      show ((m = b → (Q (some (vi m)) σ ∧ σ.1 = σ.1)) ∧ (¬ m = b → Sat true (d + 2) 163 σ.1 Q 22 [some (vr 233 0), some (vi (nI p)), some (vi m), some (vi m), some (vi n), some (vi (nI 0))] [] σ))
      refine ⟨fun g => absurd g hb, fun _ => s_incPass hP hS hI2 hp (fun m' n' k' => ?_) 12 0 m n (by omega) hi⟩
      by_cases c : m' = m
      · subst c
        exact ex m' n' k'
      · exfalso
        have full := cnB_full (f := bt m) (k := 12) (by omega)
        refine c (bt_ext fun z _ => ?_)
        rw [Bool.eq_iff_iff]
        exact ⟨fun w => full z (k'.1 z w).1, k'.2.2.2.2.1 z⟩
    | succ k ih =>
      intro m b n hk hb hi
      refine wp_ok (cut := [12, 22]) ma_163 rfl 7 _ _ _ _ ?_
      show ((m = b → (Q (some (vi m)) σ ∧ σ.1 = σ.1)) ∧ (¬ m = b → Sat true (d + 2) 163 σ.1 Q 22 [some (vr 233 0), some (vi (nI p)), some (vi m), some (vi m), some (vi n), some (vi (nI 0))] [] σ))
      refine ⟨fun g => absurd g hb, fun _ => s_incPass hP hS hI2 hp (fun m' n' k' => ?_) 12 0 m n (by omega) hi⟩
      by_cases c : m' = m
      · subst c
        exact ex m' n' k'
      · obtain ⟨k1, k2, k3, k4, k5, k6⟩ := k'
        refine ih m' m n' ?_ c ⟨k1, k2, k3, k4, fun r h => h, fun _ r hr => absurd hr (Nat.not_lt_zero _)⟩
        have : cnB (bt m) 12 + 1 ≤ cnB (bt m') 12 := by
          refine cnB_lt (fun q _ h => k5 q h) ?_
          by_cases w : ∃ q, q < 12 ∧ bt m q = false ∧ bt m' q = true
          · exact w
          · refine absurd (bt_ext fun z _ => ?_) c
            rw [Bool.eq_iff_iff]
            refine ⟨fun h => ?_, k5 z⟩
            cases e : bt m z with
            | true => rfl
            | false => exact absurd ⟨z, (k1 z h).1, e, h⟩ w
        omega
  refine wp_ok (cut := [12]) ma_163 rfl 9 _ _ _ _ ?_
  show (vp_in (nI p) 12 ∧ Sat true (d + 2) 163 σ.1 Q 12 [some (vr 233 0), some (vi (nI p)), some (vi (nI 0)), some (vi (-1)), some (vi (hI σ 252 0 ((nI p).toNatClampNeg))), none] [] σ)
  rw [ix (by omega), hI2 p hp]
  refine ⟨inb hp (by omega), outer 12 _ _ _ (by omega) (by decide) ⟨fun r h => ?_, fun r h => ?_, fun s h => h, fun s h => ⟨mInc_12 (hP p hp).1 h, cl_seed _ _ s h 11⟩, fun r h => h, fun _ r hr => absurd hr (Nat.not_lt_zero _)⟩⟩
  · rw [bt_0] at h
    cases h
  · rw [bt_0] at h
    cases h
theorem m_cycles (d : Nat) (ms : MS σ P X rs es) : PI (d + 7) 164 [vr 233 0] σ (cycV P) (fun h => MS h P X rs es ∧ FrM SQ σ h) := by
  refine PI_of mt_164 (Nat.le_of_ble_eq_true rfl) fun Q hq => ?_
  have z0 : ∀ m : Int32, m ||| nI 0 = m := fun m => Int32.or_zero
  refine wp_ok (cut := [8]) ma_164 rfl 6 _ _ _ _ ?_
  show CalV true (d + 6) 157 [vr 233 0] σ σ.1 (fun s1 => Sat true (d + 7) 164 σ.1 Q 8 [some (vr 233 0), some (vi (nI 0)), some (vi (nI 0))] [] s1)
  refine cp_v (m_lay (d + 1) ms) rfl (fun h1 q1 e1 => ?_)
  have hq := hq h1 ⟨q1.1, q1.2.2.mo fun f k w => Or.inl w⟩
  have loop : ∀ (m p : Nat), p + m = 12 → Sat true (d + 7) 164 σ.1 Q 8 [some (vr 233 0), some (vi (mkM (fun p => bt (incS P p) p) p)), some (vi (nI p))] [] h1 := by
    intro m
    induction m with
    | zero =>
      intro p hp
      have hp : p = 12 := hp
      subst hp
      refine wp_ok (cut := [8]) ma_164 rfl 25 _ _ _ _ ?_
      show (((nI 12) ≤ (nI 12) → (Q (some (vi (mkM (fun p => bt (incS P p) p) 12))) h1 ∧ h1.1 = σ.1)) ∧ (¬ (nI 12) ≤ (nI 12) → CalI true (d + 6) 111 [vr 233 0, vi (nI 12)] h1 σ.1 (fun x2 s1 => ((x2 = 0 → Sat true (d + 7) 164 σ.1 Q 8 [some (vr 233 0), some (vi ((mkM (fun p => bt (incS P p) p) 12) ||| (nI 0))), some (vi ((nI 12) + nI 1))] [] s1) ∧ (¬ x2 = 0 → CalI true (d + 6) 163 [vr 233 0, vi (nI 12)] s1 σ.1 (fun x4 s3 => ((¬ ((x4 >>> ((nI 12) &&& 31)) &&& (nI 1)) = (nI 1) → Sat true (d + 7) 164 σ.1 Q 8 [some (vr 233 0), some (vi ((mkM (fun p => bt (incS P p) p) 12) ||| (nI 0))), some (vi ((nI 12) + nI 1))] [] s3) ∧ (((x4 >>> ((nI 12) &&& 31)) &&& (nI 1)) = (nI 1) → Sat true (d + 7) 164 σ.1 Q 8 [some (vr 233 0), some (vi ((mkM (fun p => bt (incS P p) p) 12) ||| ((nI 1) <<< ((nI 12) &&& 31)))), some (vi ((nI 12) + nI 1))] [] s3))))))))
      exact ⟨fun _ => ⟨hq, e1⟩, fun g => absurd (Int32.le_refl _) g⟩
    | succ m ih =>
      intro p hp
      have hp12 : p < 12 := by omega
      have nx := ih (p + 1) (by omega)
      unfold mkM at nx
      refine wp_ok (cut := [8]) ma_164 rfl 25 _ _ _ _ ?_
      show (((nI 12) ≤ (nI p) → (Q (some (vi (mkM (fun p => bt (incS P p) p) p))) h1 ∧ h1.1 = σ.1)) ∧ (¬ (nI 12) ≤ (nI p) → CalI true (d + 6) 111 [vr 233 0, vi (nI p)] h1 σ.1 (fun x2 s1 => ((x2 = 0 → Sat true (d + 7) 164 σ.1 Q 8 [some (vr 233 0), some (vi ((mkM (fun p => bt (incS P p) p) p) ||| (nI 0))), some (vi ((nI p) + nI 1))] [] s1) ∧ (¬ x2 = 0 → CalI true (d + 6) 163 [vr 233 0, vi (nI p)] s1 σ.1 (fun x4 s3 => ((¬ ((x4 >>> ((nI p) &&& 31)) &&& (nI 1)) = (nI 1) → Sat true (d + 7) 164 σ.1 Q 8 [some (vr 233 0), some (vi ((mkM (fun p => bt (incS P p) p) p) ||| (nI 0))), some (vi ((nI p) + nI 1))] [] s3) ∧ (((x4 >>> ((nI p) &&& 31)) &&& (nI 1)) = (nI 1) → Sat true (d + 7) 164 σ.1 Q 8 [some (vr 233 0), some (vi ((mkM (fun p => bt (incS P p) p) p) ||| ((nI 1) <<< ((nI p) &&& 31)))), some (vi ((nI p) + nI 1))] [] s3))))))))
      rw [addN]
      refine br_le (by omega) (by omega) (fun g => by omega) (fun _ => cal_i (m_has (d + 5) hp12 (q1.1.2.2.1 p hp12)) e1 (brI (fun g => ?_) (fun g => cal_i (m_included (d + 4) ms.1 q1.1.2.2.1 (fun q hq => (q1.2.1.2 q hq).1.2.2.2.2.1) hp12) e1 (in1 _ hp12 (fun g2 => ?_) (fun g2 => ?_)))))
      · rw [if_neg (fun w => ?_)] at nx
        · rw [z0]
          exact nx
        · have e : P p = [] := pnil g
          have w : bt (incS P p) p = true := w
          have := cl_min (N := fun q => mInc (P q)) (a := mInc (P p)) (T := fun _ => False) (fun r h => by rw [e] at h; have h : bt (nI 0) r = true := h; rw [bt_0] at h; cases h) (fun _ _ _ f _ => f) 11 p w
          exact this
      · rw [mkM_bt _ 12 (by omega) p (by omega), decide_eq_true hp12, Bool.true_and, g, Bool.and_true] at g2
        rw [if_neg (by rw [g2]; exact Bool.false_ne_true)] at nx
        rw [z0]
        exact nx
      · rw [mkM_bt _ 12 (by omega) p (by omega), decide_eq_true hp12, Bool.true_and, g, Bool.and_true] at g2
        rw [if_pos g2] at nx
        exact nx
  exact loop 12 0 (by omega)
end
