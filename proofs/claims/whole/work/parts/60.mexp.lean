/-! the model: layExpansion runs the machine -/
def SEx (r f k : Nat) : Prop := SHd r f k ∨ ((f = 239 ∨ f = 240) ∧ k = r) ∨ (f = 257 ∨ f = 258 ∨ f = 259) ∨ (f = 233 ∧ (k = 30 ∨ k = 31))
def PileM (h : Hp) (P : Nat → List Line) : XS → Prop
  | [] => True
  | e :: rest => hI h 257 0 rest.length = nI e.1 ∧ hI h 258 0 rest.length = nI (posL ((P e.1).take e.2.1)) ∧ hI h 259 0 rest.length = nI e.2.2 ∧ PileM h P rest
theorem PileM_cong {h h' : Hp} {P : Nat → List Line} : ∀ {st : XS}, (∀ k, k < st.length → hI h' 257 0 k = hI h 257 0 k ∧ hI h' 258 0 k = hI h 258 0 k ∧ hI h' 259 0 k = hI h 259 0 k) → PileM h P st → PileM h' P st := by
  intro st
  induction st with
  | nil => intro _ _; exact True.intro
  | cons e r ih =>
    intro g k
    have q := g r.length (by rw [List.length_cons]; omega)
    exact ⟨q.1.trans k.1, q.2.1.trans k.2.1, q.2.2.trans k.2.2.1, ih (fun j hj => g j (by rw [List.length_cons]; omega)) k.2.2.2⟩
/-- the heap of the model, the machine on its way; σ is the heap at the entry -/
def XM (σ h : Hp) (P : Nat → List Line) (r : Nat) (st : XS) (x : XA) : Prop := hI h 239 0 r = nI x.1 ∧ hI h 240 0 r = x.2.1 ∧ hI h 241 0 r = nI x.2.2.1.length ∧ All x.2.2.1 (HedM h r x.2.2.1) ∧ (∀ k, k < 64 → hI h 260 0 k = nI (ctF x.2.2.1 k)) ∧ hI h 233 0 33 = nI (nOwn x.2.2.1) ∧ (∀ j, j < 54 → hI h 249 0 (54 * r + j) = hoF (fun j => hI σ 249 0 (54 * r + j)) 0 x.2.2.1 j) ∧ hI h 233 0 30 = nI st.length ∧ (∀ q, q < 12 → bt (hI h 233 0 31) q = onSt q st) ∧ PileM h P st ∧ FrM (SEx r) σ h
theorem XM_inc {σ h : Hp} {P : Nat → List Line} {r p n rp : Nat} {o : Int32} {hs : List Hd} {st : XS} (k : XM σ h P r st (n, o, hs, rp)) : XM σ (setI (setI h 239 0 r (nI (n + 1))) 240 0 r (o ||| bit p)) P r st (n + 1, o ||| bit p, hs, rp) := by
  obtain ⟨a1, a2, a3, a4, a5, a6, a7, a8, a9, b1, b2⟩ := k
  refine ⟨by simp (disch := omega) only [hI_s, hI_k, hI_f, hI_sL, hL_sI, hL_s, hL_k, hL_f], by simp (disch := omega) only [hI_s, hI_k, hI_f, hI_sL, hL_sI, hL_s, hL_k, hL_f], by simp (disch := omega) only [hI_s, hI_k, hI_f, hI_sL, hL_sI, hL_s, hL_k, hL_f]; exact a3, All_mo a4 fun j y _ q => HedM_cong (by simp (disch := omega) only [hI_s, hI_k, hI_f, hI_sL, hL_sI, hL_s, hL_k, hL_f]) (by simp (disch := omega) only [hI_s, hI_k, hI_f, hI_sL, hL_sI, hL_s, hL_k, hL_f]) (fun k _ _ => by simp (disch := omega) only [hI_s, hI_k, hI_f, hI_sL, hL_sI, hL_s, hL_k, hL_f]) (by simp (disch := omega) only [hI_s, hI_k, hI_f, hI_sL, hL_sI, hL_s, hL_k, hL_f]) (fun k _ => by simp (disch := omega) only [hI_s, hI_k, hI_f, hI_sL, hL_sI, hL_s, hL_k, hL_f]) q, fun k hk => by simp (disch := omega) only [hI_s, hI_k, hI_f, hI_sL, hL_sI, hL_s, hL_k, hL_f]; exact a5 k hk, by simp (disch := omega) only [hI_s, hI_k, hI_f, hI_sL, hL_sI, hL_s, hL_k, hL_f]; exact a6, fun j hj => by simp (disch := omega) only [hI_s, hI_k, hI_f, hI_sL, hL_sI, hL_s, hL_k, hL_f]; exact a7 j hj, by simp (disch := omega) only [hI_s, hI_k, hI_f, hI_sL, hL_sI, hL_s, hL_k, hL_f]; exact a8, fun q hq => by simp (disch := omega) only [hI_s, hI_k, hI_f, hI_sL, hL_sI, hL_s, hL_k, hL_f]; exact a9 q hq, PileM_cong (fun k _ => ⟨by simp (disch := omega) only [hI_s, hI_k, hI_f, hI_sL, hL_sI, hL_s, hL_k, hL_f], by simp (disch := omega) only [hI_s, hI_k, hI_f, hI_sL, hL_sI, hL_s, hL_k, hL_f], by simp (disch := omega) only [hI_s, hI_k, hI_f, hI_sL, hL_sI, hL_s, hL_k, hL_f]⟩) b1, ?_⟩
  exact (b2.sI (f := 239) (Or.inr (Or.inl ⟨Or.inl rfl, rfl⟩)) _).sI (f := 240) (Or.inr (Or.inl ⟨Or.inr rfl, rfl⟩)) _
theorem XM_pos {σ h : Hp} {P : Nat → List Line} {r p j j' add : Nat} {rest : XS} {x : XA} (k : XM σ h P r ((p, j, add) :: rest) x) : XM σ (setI h 258 0 rest.length (nI (posL ((P p).take j')))) P r ((p, j', add) :: rest) x := by
  obtain ⟨a1, a2, a3, a4, a5, a6, a7, a8, a9, b1, b2⟩ := k
  refine ⟨by simp (disch := omega) only [hI_s, hI_k, hI_f, hI_sL, hL_sI, hL_s, hL_k, hL_f]; exact a1, by simp (disch := omega) only [hI_s, hI_k, hI_f, hI_sL, hL_sI, hL_s, hL_k, hL_f]; exact a2, by simp (disch := omega) only [hI_s, hI_k, hI_f, hI_sL, hL_sI, hL_s, hL_k, hL_f]; exact a3, All_mo a4 fun j y _ q => HedM_cong (by simp (disch := omega) only [hI_s, hI_k, hI_f, hI_sL, hL_sI, hL_s, hL_k, hL_f]) (by simp (disch := omega) only [hI_s, hI_k, hI_f, hI_sL, hL_sI, hL_s, hL_k, hL_f]) (fun k _ _ => by simp (disch := omega) only [hI_s, hI_k, hI_f, hI_sL, hL_sI, hL_s, hL_k, hL_f]) (by simp (disch := omega) only [hI_s, hI_k, hI_f, hI_sL, hL_sI, hL_s, hL_k, hL_f]) (fun k _ => by simp (disch := omega) only [hI_s, hI_k, hI_f, hI_sL, hL_sI, hL_s, hL_k, hL_f]) q, fun k hk => by simp (disch := omega) only [hI_s, hI_k, hI_f, hI_sL, hL_sI, hL_s, hL_k, hL_f]; exact a5 k hk, by simp (disch := omega) only [hI_s, hI_k, hI_f, hI_sL, hL_sI, hL_s, hL_k, hL_f]; exact a6, fun j hj => by simp (disch := omega) only [hI_s, hI_k, hI_f, hI_sL, hL_sI, hL_s, hL_k, hL_f]; exact a7 j hj, by simp (disch := omega) only [hI_s, hI_k, hI_f, hI_sL, hL_sI, hL_s, hL_k, hL_f]; exact a8, fun q hq => by simp (disch := omega) only [hI_s, hI_k, hI_f, hI_sL, hL_sI, hL_s, hL_k, hL_f]; exact a9 q hq, ⟨by simp (disch := omega) only [hI_s, hI_k, hI_f, hI_sL, hL_sI, hL_s, hL_k, hL_f]; exact b1.1, by simp (disch := omega) only [hI_s, hI_k, hI_f, hI_sL, hL_sI, hL_s, hL_k, hL_f], by simp (disch := omega) only [hI_s, hI_k, hI_f, hI_sL, hL_sI, hL_s, hL_k, hL_f]; exact b1.2.2.1, PileM_cong (fun k hk => ⟨by simp (disch := omega) only [hI_s, hI_k, hI_f, hI_sL, hL_sI, hL_s, hL_k, hL_f], by simp (disch := omega) only [hI_s, hI_k, hI_f, hI_sL, hL_sI, hL_s, hL_k, hL_f], by simp (disch := omega) only [hI_s, hI_k, hI_f, hI_sL, hL_sI, hL_s, hL_k, hL_f]⟩) b1.2.2.2⟩, ?_⟩
  exact b2.sI (f := 258) (Or.inr (Or.inr (Or.inl (Or.inr (Or.inl rfl))))) _
theorem XM_head {σ h h2 : Hp} {P : Nat → List Line} {r : Nat} {st : XS} {n rp : Nat} {o : Int32} {hs : List Hd} {y : Hd} (k : XM σ h P r st (n, o, hs, rp)) (hy : ∀ j, y.2.2.2 = some j → j < 54) (q : HAddM h h2 r hs y (nOwn hs)) : XM σ h2 P r st (n, o, hs ++ [y], rp) := by
  obtain ⟨a1, a2, a3, a4, a5, a6, a7, a8, a9, b1, b2⟩ := k
  obtain ⟨q1, q2, q3, q4, q5, q6⟩ := q
  have fr : ∀ f k, ¬ SHd r f k → hI h2 f 0 k = hI h f 0 k := fun f k n => q6.2.2.2 f 0 k fun w => n w.2
  refine ⟨?_, ?_, ?_, q2, q3, ?_, fun j hj => ?_, ?_, fun q hq => ?_, PileM_cong (fun k hk => ⟨?_, ?_, ?_⟩) b1, b2.tr (q6.mo fun f k w => Or.inl w)⟩
  · rw [fr 239 r (by unfold SHd; omega)]; exact a1
  · rw [fr 240 r (by unfold SHd; omega)]; exact a2
  · rw [List.length_append]; exact q1
  · rw [q5, nOwn_app]
    show nI (nOwn hs + isO y.2.2.2) = nI (nOwn hs + nOwn [y])
    have : nOwn [y] = isO y.2.2.2 := by
      unfold nOwn nOwn isO
      cases y.2.2.2 <;> rfl
    rw [this]
  · rw [q4, hoF_sn, Nat.zero_add]
    have a7 := a7 j hj
    cases e : y.2.2.2 with
    | none => exact a7
    | some i =>
      show upd (hI h 249 0) (54 * r + i) (nI hs.length) (54 * r + j) = upd (hoF _ 0 hs) i (nI hs.length) j
      unfold upd
      by_cases g : j = i
      · rw [if_pos (by omega), if_pos g]
      · rw [if_neg (by omega), if_neg g]
        exact a7
  · rw [fr 233 30 (by unfold SHd; omega)]; exact a8
  · rw [fr 233 31 (by unfold SHd; omega)]; exact a9 q hq
  · rw [fr 257 k (by unfold SHd; omega)]
  · rw [fr 258 k (by unfold SHd; omega)]
  · rw [fr 259 k (by unfold SHd; omega)]
theorem beq_c (p q : Nat) : Nat.beq p q = decide (q = p) := by
  by_cases e : q = p
  · rw [decide_eq_true e, e, Nat.beq_refl]
  · rw [decide_eq_false e]
    cases w : Nat.beq p q with
    | false => rfl
    | true => exact absurd (Nat.eq_of_beq_eq_true w).symm e
theorem XM_push {σ h : Hp} {P : Nat → List Line} {r q add : Nat} {st : XS} {x : XA} {rp : Nat} (hq : q < 12) (k : XM σ h P r st x) : XM σ (setI (setI (setI (setI (setI h 257 0 st.length (nI q)) 258 0 st.length (nI 0)) 259 0 st.length (nI add)) 233 0 30 (nI (st.length + 1))) 233 0 31 (hI h 233 0 31 ||| bit q)) P r ((q, 0, add) :: st) (x.1, x.2.1, x.2.2.1, rp) := by
  obtain ⟨a1, a2, a3, a4, a5, a6, a7, a8, a9, b1, b2⟩ := k
  refine ⟨by simp (disch := omega) only [hI_s, hI_k, hI_f, hI_sL, hL_sI, hL_s, hL_k, hL_f]; exact a1, by simp (disch := omega) only [hI_s, hI_k, hI_f, hI_sL, hL_sI, hL_s, hL_k, hL_f]; exact a2, by simp (disch := omega) only [hI_s, hI_k, hI_f, hI_sL, hL_sI, hL_s, hL_k, hL_f]; exact a3, All_mo a4 fun j y _ q => HedM_cong (by simp (disch := omega) only [hI_s, hI_k, hI_f, hI_sL, hL_sI, hL_s, hL_k, hL_f]) (by simp (disch := omega) only [hI_s, hI_k, hI_f, hI_sL, hL_sI, hL_s, hL_k, hL_f]) (fun k _ _ => by simp (disch := omega) only [hI_s, hI_k, hI_f, hI_sL, hL_sI, hL_s, hL_k, hL_f]) (by simp (disch := omega) only [hI_s, hI_k, hI_f, hI_sL, hL_sI, hL_s, hL_k, hL_f]) (fun k _ => by simp (disch := omega) only [hI_s, hI_k, hI_f, hI_sL, hL_sI, hL_s, hL_k, hL_f]) q, fun k hk => by simp (disch := omega) only [hI_s, hI_k, hI_f, hI_sL, hL_sI, hL_s, hL_k, hL_f]; exact a5 k hk, by simp (disch := omega) only [hI_s, hI_k, hI_f, hI_sL, hL_sI, hL_s, hL_k, hL_f]; exact a6, fun j hj => by simp (disch := omega) only [hI_s, hI_k, hI_f, hI_sL, hL_sI, hL_s, hL_k, hL_f]; exact a7 j hj, by simp (disch := omega) only [hI_s, hI_k, hI_f, hI_sL, hL_sI, hL_s, hL_k, hL_f]; rfl, fun z hz => ?_, ⟨by simp (disch := omega) only [hI_s, hI_k, hI_f, hI_sL, hL_sI, hL_s, hL_k, hL_f], by simp (disch := omega) only [hI_s, hI_k, hI_f, hI_sL, hL_sI, hL_s, hL_k, hL_f]; rfl, by simp (disch := omega) only [hI_s, hI_k, hI_f, hI_sL, hL_sI, hL_s, hL_k, hL_f], PileM_cong (fun k hk => ⟨by simp (disch := omega) only [hI_s, hI_k, hI_f, hI_sL, hL_sI, hL_s, hL_k, hL_f], by simp (disch := omega) only [hI_s, hI_k, hI_f, hI_sL, hL_sI, hL_s, hL_k, hL_f], by simp (disch := omega) only [hI_s, hI_k, hI_f, hI_sL, hL_sI, hL_s, hL_k, hL_f]⟩) b1⟩, ?_⟩
  · rw [hI_s, bt_or, a9 z hz, bt_bit q hq z (by omega), onSt_cons, beq_c]
    exact Bool.or_comm _ _
  · exact ((((b2.sI (f := 257) (Or.inr (Or.inr (Or.inl (Or.inl rfl)))) _).sI (f := 258) (Or.inr (Or.inr (Or.inl (Or.inr (Or.inl rfl))))) _).sI (f := 259) (Or.inr (Or.inr (Or.inl (Or.inr (Or.inr rfl))))) _).sI (f := 233) (Or.inr (Or.inr (Or.inr ⟨rfl, Or.inl rfl⟩))) _).sI (f := 233) (Or.inr (Or.inr (Or.inr ⟨rfl, Or.inr rfl⟩))) _
theorem XM_pop {σ h : Hp} {P : Nat → List Line} {r p j add : Nat} {rest : XS} {x : XA} (hp : p < 12) (hn : onSt p rest = false) (k : XM σ h P r ((p, j, add) :: rest) x) : XM σ (setI (setI h 233 0 30 (nI rest.length)) 233 0 31 (hI h 233 0 31 &&& (bit p ^^^ (-1)))) P r rest x := by
  obtain ⟨a1, a2, a3, a4, a5, a6, a7, a8, a9, b1, b2⟩ := k
  refine ⟨by simp (disch := omega) only [hI_s, hI_k, hI_f, hI_sL, hL_sI, hL_s, hL_k, hL_f]; exact a1, by simp (disch := omega) only [hI_s, hI_k, hI_f, hI_sL, hL_sI, hL_s, hL_k, hL_f]; exact a2, by simp (disch := omega) only [hI_s, hI_k, hI_f, hI_sL, hL_sI, hL_s, hL_k, hL_f]; exact a3, All_mo a4 fun j y _ q => HedM_cong (by simp (disch := omega) only [hI_s, hI_k, hI_f, hI_sL, hL_sI, hL_s, hL_k, hL_f]) (by simp (disch := omega) only [hI_s, hI_k, hI_f, hI_sL, hL_sI, hL_s, hL_k, hL_f]) (fun k _ _ => by simp (disch := omega) only [hI_s, hI_k, hI_f, hI_sL, hL_sI, hL_s, hL_k, hL_f]) (by simp (disch := omega) only [hI_s, hI_k, hI_f, hI_sL, hL_sI, hL_s, hL_k, hL_f]) (fun k _ => by simp (disch := omega) only [hI_s, hI_k, hI_f, hI_sL, hL_sI, hL_s, hL_k, hL_f]) q, fun k hk => by simp (disch := omega) only [hI_s, hI_k, hI_f, hI_sL, hL_sI, hL_s, hL_k, hL_f]; exact a5 k hk, by simp (disch := omega) only [hI_s, hI_k, hI_f, hI_sL, hL_sI, hL_s, hL_k, hL_f]; exact a6, fun j hj => by simp (disch := omega) only [hI_s, hI_k, hI_f, hI_sL, hL_sI, hL_s, hL_k, hL_f]; exact a7 j hj, by simp (disch := omega) only [hI_s, hI_k, hI_f, hI_sL, hL_sI, hL_s, hL_k, hL_f], fun z hz => ?_, PileM_cong (fun k hk => ⟨by simp (disch := omega) only [hI_s, hI_k, hI_f, hI_sL, hL_sI, hL_s, hL_k, hL_f], by simp (disch := omega) only [hI_s, hI_k, hI_f, hI_sL, hL_sI, hL_s, hL_k, hL_f], by simp (disch := omega) only [hI_s, hI_k, hI_f, hI_sL, hL_sI, hL_s, hL_k, hL_f]⟩) b1.2.2.2, ?_⟩
  · rw [hI_s, bt_not _ _ (by omega), a9 z hz, bt_bit p hp z (by omega), onSt_cons, beq_c]
    by_cases e : z = p
    · rw [decide_eq_true e, e, hn]
      rfl
    · rw [decide_eq_false e, Bool.false_or, Bool.not_false, Bool.and_true]
  · exact (b2.sI (f := 233) (Or.inr (Or.inr (Or.inr ⟨rfl, Or.inl rfl⟩))) _).sI (f := 233) (Or.inr (Or.inr (Or.inr ⟨rfl, Or.inr rfl⟩))) _
abbrev exL (r rp : Nat) (x3 x4 x5 x6 x7 x8 x9 : Option AV) : List (Option AV) := [some (vr 233 0), some (vi (nI r)), some (vi (nI rp)), x3, x4, x5, x6, x7, x8, x9]
theorem exNo {D r rp pc : Nat} {B : Nat × Nat × Nat} {Q : Option AV → Hp → Prop} {h : Hp} {x3 x4 x5 x6 x7 x8 x9 : Option AV} (k : Sat true D 156 B Q pc (exL r rp none none none none none none none) [] h) : Sat true D 156 B Q pc (exL r rp x3 x4 x5 x6 x7 x8 x9) [] h := Sat_no 3 (Sat_no 4 (Sat_no 5 (Sat_no 6 (Sat_no 7 (Sat_no 8 (Sat_no 9 k))))))
section
variable {σ : Hp} {P : Nat → List Line} {r : Nat} {Q : Option AV → Hp → Prop} {d : Nat}
set_option maxRecDepth 6000 in
theorem s_ex304 (hr : r < 12) {p : Nat} {st : XS} {n rp : Nat} {o : Int32} {hs : List Hd} {h : Hp} {x3 x5 x6 x7 : Int32} (k : XM σ h P r st (n, o, hs, rp)) (kq : ∀ h, XM σ h P r st (n + 1, o ||| bit p, hs, rp) → Sat true (d + 3) 156 σ.1 Q 65 (exL r rp none none none none none none none) [] h) : Sat true (d + 3) 156 σ.1 Q 304 (exL r rp (some (vi x3)) (some (vi (nI p))) (some (vi x5)) (some (vi x6)) (some (vi x7)) none none) [] h := by
  refine wp_ok (cut := [65, 304]) ma_156 rfl 19 _ _ _ _ ?_
  show (vp_in (nI r) 12 ∧ (vp_in (nI r) 12 ∧ (vp_in (nI r) 12 ∧ (vp_in (nI r) 12 ∧ Sat true (d + 3) 156 σ.1 Q 65 [some (vr 233 0), some (vi (nI r)), some (vi (nI rp)), some (vi x3), some (vi (nI p)), some (vi x5), some (vi x6), some (vi x7), none, none] [] (setI (setI h 239 0 ((nI r).toNatClampNeg) ((hI h 239 0 ((nI r).toNatClampNeg)) + (nI 1))) 240 0 ((nI r).toNatClampNeg) ((hI h 240 0 ((nI r).toNatClampNeg)) ||| ((nI 1) <<< ((nI p) &&& 31))))))))
  have i1 : vp_in (nI r) 12 := inb (by omega) (by omega)
  have q1 : hI h 239 0 r = nI n := k.1
  have q2 : hI h 240 0 r = o := k.2.1
  rw [ix (by omega), q1, q2, addN]
  exact ⟨i1, i1, i1, i1, exNo (kq _ (XM_inc k))⟩
set_option maxRecDepth 6000 in
theorem s_ex231 (hr : r < 12) {p q s j add rp : Nat} {rest : XS} {x : XA} {h : Hp} {x5 x6 x7 : Int32} (hq : q < 12) (hrp : x.2.2.2 = rp) (hrp2 : rp ≤ 200) (hl : rest.length < 12) (hs : SrcM σ q (P q)) (k : XM σ h P r ((p, j, add) :: rest) x) (kq : ∀ st' x' h, (if P q ≠ [] ∧ onSt q ((p, j, add) :: rest) = false ∧ x.2.2.2 < 200 then ((q, 0, add + s) :: (p, j, add) :: rest, x.1, x.2.1, x.2.2.1, x.2.2.2 + 1) else ((p, j, add) :: rest, x) : XS × XA) = (st', x') → XM σ h P r st' x' → Sat true (d + 3) 156 σ.1 Q 65 (exL r x'.2.2.2 none none none none none none none) [] h) : Sat true (d + 3) 156 σ.1 Q 231 (exL r rp (some (vi (nI rest.length))) (some (vi (nI p))) (some (vi x5)) (some (vi x6)) (some (vi x7)) (some (vi (nI q))) (some (vi (nI s)))) [] h := by
  have hT : hI h 235 0 = hI σ 235 0 := k.2.2.2.2.2.2.2.2.2.2.fam (fun k => by unfold SEx SHd; omega) 0
  have hh := m_has (d + 1) (σ := h) hq (ls := P q) (by
    obtain ⟨s1, s2, s3, s4⟩ := hs
    exact ⟨s1, s2, by rw [hT]; exact s3, by unfold TxM; rw [hT]; exact s4⟩)
  have hB := k.2.2.2.2.2.2.2.2.2.2.1
  have no : ¬ (P q ≠ [] ∧ onSt q ((p, j, add) :: rest) = false ∧ x.2.2.2 < 200) → Sat true (d + 3) 156 σ.1 Q 65 (exL r rp none none none none none none none) [] h := by
    intro c
    have := kq _ _ h (if_neg c) k
    rw [hrp] at this
    exact this
  have e31 := k.2.2.2.2.2.2.2.2.1 q hq
  have e30 := k.2.2.2.2.2.2.2.1
  have e259 := k.2.2.2.2.2.2.2.2.2.1.2.2.1
  have e259 : hI h 259 0 rest.length = nI add := e259
  refine wp_ok (cut := [65, 182]) ma_156 rfl 26 _ _ _ _ ?_
  show CalI true (d + 2) 111 [vr 233 0, vi (nI q)] h σ.1 (fun x2 s1 => ((x2 = 0 → Sat true (d + 3) 156 σ.1 Q 65 [some (vr 233 0), some (vi (nI r)), some (vi (nI rp)), some (vi (nI rest.length)), some (vi (nI p)), some (vi x5), some (vi x6), some (vi x7), some (vi (nI q)), some (vi (nI s))] [] s1) ∧ (¬ x2 = 0 → ((¬ (((hI s1 233 0 31) >>> ((nI q) &&& 31)) &&& (nI 1)) = 0 → Sat true (d + 3) 156 σ.1 Q 65 [some (vr 233 0), some (vi (nI r)), some (vi (nI rp)), some (vi (nI rest.length)), some (vi (nI p)), some (vi x5), some (vi x6), some (vi x7), some (vi (nI q)), some (vi (nI s))] [] s1) ∧ ((((hI s1 233 0 31) >>> ((nI q) &&& 31)) &&& (nI 1)) = 0 → (((nI 200) ≤ (nI rp) → Sat true (d + 3) 156 σ.1 Q 65 [some (vr 233 0), some (vi (nI r)), some (vi (nI rp)), some (vi (nI rest.length)), some (vi (nI p)), some (vi x5), some (vi x6), some (vi x7), some (vi (nI q)), some (vi (nI s))] [] s1) ∧ (¬ (nI 200) ≤ (nI rp) → (vp_in (nI rest.length) 13 ∧ CalV true (d + 2) 152 [vr 233 0, vi (nI q), vi ((hI s1 259 0 ((nI rest.length).toNatClampNeg)) + (nI s))] s1 σ.1 (fun s3 => Sat true (d + 3) 156 σ.1 Q 65 [some (vr 233 0), some (vi (nI r)), some (vi ((nI rp) + nI 1)), some (vi (nI rest.length)), some (vi (nI p)), some (vi x5), some (vi x6), some (vi x7), some (vi (nI q)), some (vi (nI s))] [] s3)))))))))
  refine cal_i hh hB (brI (fun g => exNo (no fun c => ?_)) (fun g => ?_))
  · exact of_decide_eq_false g c.1
  · rw [in_s _ hq, e31, ix (by omega), e259, addN, addN]
    refine brN (fun g2 => exNo (no fun c => by rw [g2] at c; cases c.2.1)) (fun g2 => br_le (by omega) (by omega) (fun g3 => exNo (no fun c => by omega)) (fun g3 => ⟨inb (by omega) (by omega), ?_⟩))
    have c : P q ≠ [] ∧ onSt q ((p, j, add) :: rest) = false ∧ x.2.2.2 < 200 := ⟨of_decide_eq_true g, g2, by omega⟩
    refine cal_v (m_push (d + 2) h (m := rest.length + 1) (by omega) e30) hB ?_
    have := kq _ _ _ (if_pos c) (XM_push (rp := x.2.2.2 + 1) (add := add + s) hq k)
    rw [← hrp]
    exact exNo this
end
