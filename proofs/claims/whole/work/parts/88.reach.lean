/-! reach: the class -/
def enL (P : Nat → List Line) (X : Nat → XA) (rs : List (Pl × Pl)) : List Lk → Int32 → Int32
  | [], m => m
  | k :: r, m => enL P X rs r (if knd P X rs k ≤ 1 then m ||| bit (rtRun P X rs (k.1, k.2.1)).2.1.1 else m)
def nbM (P : Nat → List Line) (X : Nat → XA) (rs : List (Pl × Pl)) (p : Nat) : Int32 := enL P X rs (lkPg p 0 (P p)) (mInc (P p))
def reM (P : Nat → List Line) (X : Nat → XA) (rs : List (Pl × Pl)) (p : Nat) : Int32 := clF (nbM P X rs) (bit p) 11
theorem enL_sn (P : Nat → List Line) (X : Nat → XA) (rs : List (Pl × Pl)) : ∀ (a : List Lk) (k : Lk) (m : Int32), enL P X rs (a ++ [k]) m = (if knd P X rs k ≤ 1 then enL P X rs a m ||| bit (rtRun P X rs (k.1, k.2.1)).2.1.1 else enL P X rs a m) := by
  intro a
  induction a with
  | nil => intro k m; rfl
  | cons x a ih => intro k m; exact ih k _
theorem enL_or (P : Nat → List Line) (X : Nat → XA) (rs : List (Pl × Pl)) : ∀ (a : List Lk) (m : Int32), m ||| enL P X rs a (nI 0) = enL P X rs a m := by
  have g : ∀ (a : List Lk) (m n : Int32), m ||| enL P X rs a n = enL P X rs a (m ||| n) := by
    intro a
    induction a with
    | nil => intro m n; rfl
    | cons x a ih =>
      intro m n
      show m ||| enL P X rs a _ = enL P X rs a _
      rw [ih]
      by_cases c : knd P X rs x ≤ 1
      · rw [if_pos c, if_pos c, Int32.or_assoc]
      · rw [if_neg c, if_neg c]
  intro a m
  rw [g]
  have : m ||| nI 0 = m := Int32.or_zero
  rw [this]
theorem rtGo_g {P : Nat → List Line} {X : Nat → XA} {rs : List (Pl × Pl)} (hr : ∀ (k : Nat) (y : Pl × Pl), rs[k]? = some y → gPl y.1 ∧ gPl y.2) : ∀ (f : Nat) (seen : List Pl) (us : List Nat) (x : Pl), gPl x → gPl (rtGo P X rs f seen us x).2.1 := by
  intro f
  induction f with
  | zero => intro seen us x h; exact h
  | succ f ih =>
    intro seen us x gx
    unfold rtGo
    split
    · exact gx
    · split
      · exact gx
      · cases e : rtNext P rs x with
        | none => exact gx
        | some r => exact ih _ _ _ (rtNext_g hr gx (k := r.1) (y := r.2) e).2
theorem enL_lt {P : Nat → List Line} {X : Nat → XA} {rs : List (Pl × Pl)} (hr : ∀ (k : Nat) (y : Pl × Pl), rs[k]? = some y → gPl y.1 ∧ gPl y.2) : ∀ (l : List Lk) (m : Int32), (∀ k ∈ l, gPl (k.1, k.2.1)) → (∀ q, bt m q = true → q < 12) → ∀ q, bt (enL P X rs l m) q = true → q < 12 := by
  intro l
  induction l with
  | nil => intro m _ h; exact h
  | cons k l ih =>
    intro m hk h
    refine ih _ (fun k hk2 => hk k (List.mem_cons_of_mem _ hk2)) fun q hq => ?_
    by_cases c : knd P X rs k ≤ 1
    · rw [if_pos c, bt_or, Bool.or_eq_true] at hq
      rcases hq with w | w
      · exact h q w
      · have g := (rtGo_g (P := P) (X := X) hr 169 [] [] _ (hk k List.mem_cons_self)).1
        have e := bit_lt g w
        rw [e]
        exact g
    · rw [if_neg c] at hq
      exact h q hq
theorem nbM_12 {P : Nat → List Line} {X : Nat → XA} {rs : List (Pl × Pl)} (hP : gP P) (hr : ∀ (k : Nat) (y : Pl × Pl), rs[k]? = some y → gPl y.1 ∧ gPl y.2) {p q : Nat} (hp : p < 12) (h : bt (nbM P X rs p) q = true) : q < 12 := enL_lt hr _ _ (fun k hk => lkPg_g hp (P p) 0 (hP p hp).1 k hk) (fun q hq => mInc_12 (hP p hp).1 hq) q h
theorem reM_12 {P : Nat → List Line} {X : Nat → XA} {rs : List (Pl × Pl)} (hP : gP P) (hr : ∀ (k : Nat) (y : Pl × Pl), rs[k]? = some y → gPl y.1 ∧ gPl y.2) {p q : Nat} (hp : p < 12) (h : bt (reM P X rs p) q = true) : q < 12 := cl_min (T := fun q => q < 12) (fun r w => by rw [bit_lt hp w]; exact hp) (fun q r hq _ w => nbM_12 hP hr hq w) 11 q h
/-- a set that has p, lies within, and is closed -/
theorem reM_is {P : Nat → List Line} {X : Nat → XA} {rs : List (Pl × Pl)} {p : Nat} (hp : p < 12) {m : Int32} (h1 : bt m p = true) (h2 : ∀ s, bt m s = true → bt (reM P X rs p) s = true) (h3 : ∀ q r, q < 12 → bt m q = true → bt (nbM P X rs q) r = true → bt m r = true) : m = reM P X rs p := by
  refine bt_ext fun z _ => ?_
  rw [Bool.eq_iff_iff]
  exact ⟨h2 z, cl_min (T := fun r => bt m r = true) (fun r w => by rw [bit_lt hp w]; exact h1) h3 11 z⟩
section
variable {σ : Hp} {P : Nat → List Line} {X : Nat → XA} {rs : List (Pl × Pl)} {es : List En}
theorem CS_r (cs : CS σ P X rs es) : ∀ (k : Nat) (y : Pl × Pl), rs[k]? = some y → gPl y.1 ∧ gPl y.2 := fun k y hy => ⟨(cs.2.2.2.1.2.2 k y hy).2.2.2.2.1, (cs.2.2.2.1.2.2 k y hy).2.2.2.2.2⟩
theorem e_neighboursOf (d : Nat) (cs : CS σ P X rs es) (hP : gP P) {p : Nat} (hp : p < 12) : PI (d + 3) 104 [vr 1 0, vi (nI p)] σ (nbM P X rs p) (fun h => Fr QF σ h) := by
  refine PI_of mt_104 (Nat.le_of_ble_eq_true rfl) fun Q hq => ?_
  have loop : ∀ (t c : List Lk) (h : Hp), lkPg p 0 (P p) = c ++ t → Fr QF σ h → Sat true (d + 3) 104 σ.1 Q 18 [some (vr 1 0), some (vi (nI p)), some (vr 21 p), some (vi (enL P X rs c (mInc (P p)))), some (vi (nI c.length))] [] h := by
    intro t
    induction t with
    | nil =>
      intro c h e hf
      rw [List.append_nil] at e
      have cs1 := CS_q hf cs
      have h8 : hI h 21 p 8 = nI c.length := by rw [(cs1.2.1 p hp).2.1, lk_len, e]
      have hq := hq h hf
      unfold nbM at hq
      rw [e] at hq
      refine wp_ok (cut := [18]) ma_104 rfl 28 _ _ _ _ ?_
      show (p < 12 ∧ (((hI h 21 p 8) ≤ (nI c.length) → (Q (some (vi (enL P X rs c (mInc (P p))))) h ∧ h.1 = σ.1)) ∧ (¬ (hI h 21 p 8) ≤ (nI c.length) → CalV true (d + 2) 43 [vr 225 0, vr 21 p, vi (nI c.length)] h σ.1 (fun s1 => (((hI s1 225 0 1) = 0 → Sat true (d + 3) 104 σ.1 Q 18 [some (vr 1 0), some (vi (nI p)), some (vr 21 p), some (vi ((enL P X rs c (mInc (P p))) ||| ((nI 1) <<< ((hI s1 225 0 2) &&& 31)))), some (vi ((nI c.length) + nI 1))] [] s1) ∧ (¬ (hI s1 225 0 1) = 0 → ((¬ (hI s1 225 0 1) = (nI 1) → Sat true (d + 3) 104 σ.1 Q 18 [some (vr 1 0), some (vi (nI p)), some (vr 21 p), some (vi (enL P X rs c (mInc (P p)))), some (vi ((nI c.length) + nI 1))] [] s1) ∧ ((hI s1 225 0 1) = (nI 1) → Sat true (d + 3) 104 σ.1 Q 18 [some (vr 1 0), some (vi (nI p)), some (vr 21 p), some (vi ((enL P X rs c (mInc (P p))) ||| ((nI 1) <<< ((hI s1 225 0 2) &&& 31)))), some (vi ((nI c.length) + nI 1))] [] s1))))))))
      rw [h8]
      exact ⟨hp, fun _ => ⟨hq, hf.1⟩, fun g => absurd (Int32.le_refl _) g⟩
    | cons k t ih =>
      intro c h e hf
      have cs1 := CS_q hf cs
      have hk : (lkPg p 0 (P p))[c.length]? = some k := by rw [e, List.getElem?_append_right (Nat.le_refl _), Nat.sub_self]; rfl
      have hl : (lkPg p 0 (P p)).length = c.length + (t.length + 1) := by rw [e, List.length_append, List.length_cons]
      have h8 : hI h 21 p 8 = nI (c.length + (t.length + 1)) := by rw [(cs1.2.1 p hp).2.1, lk_len, hl]
      have b42 := (bds hP hp).2
      have k4 : knd P X rs k ≤ 4 := rtRun_k P X rs (k.1, k.2.1)
      refine wp_ok (cut := [18]) ma_104 rfl 28 _ _ _ _ ?_
      show (p < 12 ∧ (((hI h 21 p 8) ≤ (nI c.length) → (Q (some (vi (enL P X rs c (mInc (P p))))) h ∧ h.1 = σ.1)) ∧ (¬ (hI h 21 p 8) ≤ (nI c.length) → CalV true (d + 2) 43 [vr 225 0, vr 21 p, vi (nI c.length)] h σ.1 (fun s1 => (((hI s1 225 0 1) = 0 → Sat true (d + 3) 104 σ.1 Q 18 [some (vr 1 0), some (vi (nI p)), some (vr 21 p), some (vi ((enL P X rs c (mInc (P p))) ||| ((nI 1) <<< ((hI s1 225 0 2) &&& 31)))), some (vi ((nI c.length) + nI 1))] [] s1) ∧ (¬ (hI s1 225 0 1) = 0 → ((¬ (hI s1 225 0 1) = (nI 1) → Sat true (d + 3) 104 σ.1 Q 18 [some (vr 1 0), some (vi (nI p)), some (vr 21 p), some (vi (enL P X rs c (mInc (P p)))), some (vi ((nI c.length) + nI 1))] [] s1) ∧ ((hI s1 225 0 1) = (nI 1) → Sat true (d + 3) 104 σ.1 Q 18 [some (vr 1 0), some (vi (nI p)), some (vr 21 p), some (vi ((enL P X rs c (mInc (P p))) ||| ((nI 1) <<< ((hI s1 225 0 2) &&& 31)))), some (vi ((nI c.length) + nI 1))] [] s1))))))))
      rw [h8, addN]
      refine ⟨hp, br_le (by omega) (by omega) (fun g => by omega) (fun _ => cp_v (e_way d cs1 hP hp hk) hf.1 (fun h1 q1 e1 => ?_))⟩
      have nx := ih (c ++ [k]) h1 (by rw [e, List.append_assoc]; rfl) (hf.tr (RF_QF q1.2))
      rw [enL_sn, List.length_append] at nx
      have w0 : hI h1 225 0 1 = nI (knd P X rs k) := q1.1.1
      rw [w0, q1.1.2.1]
      refine br_eq (b := 0) (by omega) (by omega) (fun g => ?_) (fun g => br_ne (by omega) (by omega) (fun g2 => ?_) (fun g2 => ?_))
      · rw [if_pos (by omega)] at nx
        exact nx
      · rw [if_neg (by omega)] at nx
        exact nx
      · rw [if_pos (by omega)] at nx
        exact nx
  refine wp_ok (cut := [18]) ma_104 rfl 11 _ _ _ _ ?_
  show (vp_in (nI p) 12 ∧ ((nI p).toNatClampNeg < 12 ∧ Sat true (d + 3) 104 σ.1 Q 18 [some (vr 1 0), some (vi (nI p)), some (vr 21 ((nI p).toNatClampNeg)), some (vi (hI σ 21 ((nI p).toNatClampNeg) 7)), some (vi (nI 0))] [] σ))
  rw [ix (by omega), (cs.2.1 p hp).1.2.2.2.2.1]
  exact ⟨inb hp (by omega), hp, loop _ [] σ rfl (Fr.rfl' _ _)⟩
/-- on the way of reachedFrom: m reached, l looked at -/
def ReI (P : Nat → List Line) (X : Nat → XA) (rs : List (Pl × Pl)) (p : Nat) (m l : Int32) : Prop := (∀ r, bt l r = true → r < 12 ∧ bt m r = true) ∧ (∀ r, bt l r = true → ∀ s, bt (nbM P X rs r) s = true → bt m s = true) ∧ bt m p = true ∧ (∀ s, bt m s = true → s < 12 ∧ bt (reM P X rs p) s = true)
theorem s_rePass (d : Nat) (cs : CS σ P X rs es) (hP : gP P) {p k : Nat} (hp : p < 12) (hk : k < 12) {m0 l0 : Int32} {Q : Option AV → Hp → Prop} (kq : ∀ m l h, Fr QF σ h → ReI P X rs p m l → (∀ r, bt l0 r = true → bt l r = true) → (∀ r, r < 12 → bt m0 r = true → bt l r = true) → Sat true (d + 4) 103 σ.1 Q 9 [some (vr 1 0), some (vi (nI p)), some (vi m), some (vi l), some (vi (nI (k + 1))), none] [] h) : ∀ (n q : Nat) (m l : Int32) (h : Hp), q + n = 12 → Fr QF σ h → ReI P X rs p m l → (∀ r, bt l0 r = true → bt l r = true) → (∀ r, bt m0 r = true → bt m r = true) → (∀ r, r < q → bt m0 r = true → bt l r = true) → Sat true (d + 4) 103 σ.1 Q 24 [some (vr 1 0), some (vi (nI p)), some (vi m), some (vi l), some (vi (nI k)), some (vi (nI q))] [] h := by
  intro n
  induction n with
  | zero =>
    intro q m l h hq hf hi a1 a2 a3
    have hq : q = 12 := hq
    subst hq
    refine wp_ok (cut := [9, 24]) ma_103 rfl 25 _ _ _ _ ?_
    show (((nI 12) ≤ (nI 12) → Sat true (d + 4) 103 σ.1 Q 9 [some (vr 1 0), some (vi (nI p)), some (vi m), some (vi l), some (vi ((nI k) + nI 1)), some (vi (nI 12))] [] h) ∧ (¬ (nI 12) ≤ (nI 12) → CalI true (d + 3) 97 [vi (m &&& (l ^^^ (-1))), vi (nI 12)] h σ.1 (fun x2 s1 => ((x2 = 0 → Sat true (d + 4) 103 σ.1 Q 24 [some (vr 1 0), some (vi (nI p)), some (vi m), some (vi l), some (vi (nI k)), some (vi ((nI 12) + nI 1))] [] s1) ∧ (¬ x2 = 0 → CalI true (d + 3) 104 [vr 1 0, vi (nI 12)] s1 σ.1 (fun x4 s3 => Sat true (d + 4) 103 σ.1 Q 24 [some (vr 1 0), some (vi (nI p)), some (vi (m ||| x4)), some (vi (l ||| ((nI 1) <<< ((nI 12) &&& 31)))), some (vi (nI k)), some (vi ((nI 12) + nI 1))] [] s3))))))
    rw [addN]
    exact ⟨fun _ => Sat_no 5 (kq m l h hf hi a1 a3), fun g => absurd (Int32.le_refl _) g⟩
  | succ n ih =>
    intro q m l h hq hf hi a1 a2 a3
    have hq12 : q < 12 := by omega
    obtain ⟨i1, i2, i3, i4⟩ := hi
    have bn : bt (m &&& (l ^^^ (-1))) q = (bt m q && ! bt l q) := bt_not m l (by omega)
    refine wp_ok (cut := [9, 24]) ma_103 rfl 25 _ _ _ _ ?_
    show (((nI 12) ≤ (nI q) → Sat true (d + 4) 103 σ.1 Q 9 [some (vr 1 0), some (vi (nI p)), some (vi m), some (vi l), some (vi ((nI k) + nI 1)), some (vi (nI q))] [] h) ∧ (¬ (nI 12) ≤ (nI q) → CalI true (d + 3) 97 [vi (m &&& (l ^^^ (-1))), vi (nI q)] h σ.1 (fun x2 s1 => ((x2 = 0 → Sat true (d + 4) 103 σ.1 Q 24 [some (vr 1 0), some (vi (nI p)), some (vi m), some (vi l), some (vi (nI k)), some (vi ((nI q) + nI 1))] [] s1) ∧ (¬ x2 = 0 → CalI true (d + 3) 104 [vr 1 0, vi (nI q)] s1 σ.1 (fun x4 s3 => Sat true (d + 4) 103 σ.1 Q 24 [some (vr 1 0), some (vi (nI p)), some (vi (m ||| x4)), some (vi (l ||| ((nI 1) <<< ((nI q) &&& 31)))), some (vi (nI k)), some (vi ((nI q) + nI 1))] [] s3))))))
    rw [addN, addN]
    refine br_le (by omega) (by omega) (fun g => by omega) (fun _ => cal_i (e_isIn (d + 3) h _ hq12) hf.1 ?_)
    rw [bn]
    refine brI (fun g => ?_) (fun g => cp_i (e_neighboursOf d (CS_q hf cs) hP hq12) hf.1 (fun h1 q1 e1 => ?_))
    · refine ih (q + 1) m l h (by omega) hf ⟨i1, i2, i3, i4⟩ a1 a2 (fun r hr w => ?_)
      by_cases c : r = q
      · rw [c] at w ⊢
        rw [a2 q w, Bool.true_and] at g
        cases e : bt l q with
        | true => rfl
        | false => rw [e] at g; cases g
      · exact a3 r (by omega) w
    · rw [Bool.and_eq_true] at g
      refine ih (q + 1) (m ||| nbM P X rs q) (l ||| bit q) h1 (by omega) (hf.tr q1) ⟨fun r w => ?_, fun r w s ws => ?_, ?_, fun s w => ?_⟩ (fun r w => ?_) (fun r w => ?_) (fun r hr w => ?_)
      · rw [bt_or, Bool.or_eq_true] at w
        rw [bt_or, Bool.or_eq_true]
        rcases w with w | w
        · exact ⟨(i1 r w).1, Or.inl (i1 r w).2⟩
        · have e := bit_lt hq12 w
          rw [e]
          exact ⟨hq12, Or.inl g.1⟩
      · rw [bt_or, Bool.or_eq_true] at w ⊢
        rcases w with w | w
        · exact Or.inl (i2 r w s ws)
        · have e := bit_lt hq12 w
          rw [e] at ws
          exact Or.inr ws
      · rw [bt_or, i3]
        rfl
      · rw [bt_or, Bool.or_eq_true] at w
        rcases w with w | w
        · exact i4 s w
        · have h12 := nbM_12 hP (CS_r cs) hq12 w
          exact ⟨h12, cl_closed hq12 h12 (i4 q g.1).2 w⟩
      · rw [bt_or, a1 r w]
        rfl
      · rw [bt_or, a2 r w]
        rfl
      · rw [bt_or, Bool.or_eq_true]
        by_cases c : r = q
        · right
          rw [c, bt_bit q hq12 q (by omega), decide_eq_true rfl]
        · exact Or.inl (a3 r (by omega) w)
theorem e_reachedFrom (d : Nat) (cs : CS σ P X rs es) (hP : gP P) {p : Nat} (hp : p < 12) : PI (d + 4) 103 [vr 1 0, vi (nI p)] σ (reM P X rs p) (fun h => Fr QF σ h) := by
  refine PI_of mt_103 (Nat.le_of_ble_eq_true rfl) fun Q hq => ?_
  have outer : ∀ (n k : Nat) (m l : Int32) (h : Hp), k + n = 12 → Fr QF σ h → ReI P X rs p m l → k ≤ cnB (bt l) 12 → Sat true (d + 4) 103 σ.1 Q 9 [some (vr 1 0), some (vi (nI p)), some (vi m), some (vi l), some (vi (nI k)), none] [] h := by
    intro n
    induction n with
    | zero =>
      intro k m l h hk hf hi hc
      have hk : k = 12 := hk
      subst hk
      have full := cnB_full hc
      have e : m = reM P X rs p := reM_is hp hi.2.2.1 (fun s w => (hi.2.2.2 s w).2) (fun q r hq _ w => hi.2.1 q (full q hq) r w)
      have hq := hq h hf
      rw [← e] at hq
      refine wp_ok (cut := [9, 24]) ma_103 rfl 8 _ _ _ _ ?_
      show (((nI 12) ≤ (nI 12) → (Q (some (vi m)) h ∧ h.1 = σ.1)) ∧ (¬ (nI 12) ≤ (nI 12) → ((l = m → (Q (some (vi m)) h ∧ h.1 = σ.1)) ∧ (¬ l = m → Sat true (d + 4) 103 σ.1 Q 24 [some (vr 1 0), some (vi (nI p)), some (vi m), some (vi l), some (vi (nI 12)), some (vi (nI 0))] [] h))))
      exact ⟨fun _ => ⟨hq, hf.1⟩, fun g => absurd (Int32.le_refl _) g⟩
    | succ n ih =>
      intro k m l h hk hf hi hc
      refine wp_ok (cut := [9, 24]) ma_103 rfl 8 _ _ _ _ ?_
      show (((nI 12) ≤ (nI k) → (Q (some (vi m)) h ∧ h.1 = σ.1)) ∧ (¬ (nI 12) ≤ (nI k) → ((l = m → (Q (some (vi m)) h ∧ h.1 = σ.1)) ∧ (¬ l = m → Sat true (d + 4) 103 σ.1 Q 24 [some (vr 1 0), some (vi (nI p)), some (vi m), some (vi l), some (vi (nI k)), some (vi (nI 0))] [] h))))
      refine br_le (by omega) (by omega) (fun g => by omega) (fun _ => ⟨fun g => ?_, fun g => ?_⟩)
      · have e : m = reM P X rs p := reM_is hp hi.2.2.1 (fun s w => (hi.2.2.2 s w).2) (fun q r hq w w2 => hi.2.1 q (by rw [g]; exact w) r w2)
        have hq := hq h hf
        rw [← e] at hq
        exact ⟨hq, hf.1⟩
      · refine s_rePass d cs hP hp (by omega) (m0 := m) (l0 := l) (fun m' l' h' hf' hi' b1 b2 => ih (k + 1) m' l' h' (by omega) hf' hi' ?_) 12 0 m l h (by omega) hf hi (fun r w => w) (fun r w => w) (fun r hr => absurd hr (Nat.not_lt_zero _))
        have : cnB (bt l) 12 + 1 ≤ cnB (bt l') 12 := by
          refine cnB_lt (fun q _ w => b1 q w) ?_
          by_cases w : ∃ q, q < 12 ∧ bt l q = false ∧ bt l' q = true
          · exact w
          · refine absurd (bt_ext fun z _ => ?_) g
            rw [Bool.eq_iff_iff]
            refine ⟨fun h => (hi.1 z h).2, fun h => ?_⟩
            have z12 := (hi.2.2.2 z h).1
            cases e : bt l z with
            | true => rfl
            | false => exact absurd ⟨z, z12, e, b2 z z12 h⟩ w
        omega
  refine wp_ok (cut := [9]) ma_103 rfl 8 _ _ _ _ ?_
  show Sat true (d + 4) 103 σ.1 Q 9 [some (vr 1 0), some (vi (nI p)), some (vi ((nI 1) <<< ((nI p) &&& 31))), some (vi (nI 0)), some (vi (nI 0)), none] [] σ
  refine outer 12 0 _ _ σ (by omega) (Fr.rfl' _ _) ⟨fun r w => ?_, fun r w => ?_, ?_, fun s w => ?_⟩ (Nat.zero_le _)
  · rw [bt_0] at w
    cases w
  · rw [bt_0] at w
    cases w
  · exact (bt_bit p hp p (by omega)).trans (decide_eq_true rfl)
  · have e := bit_lt hp w
    rw [e]
    exact ⟨hp, cl_seed _ _ p (by rw [bt_bit p hp p (by omega), decide_eq_true rfl]) 11⟩
end
