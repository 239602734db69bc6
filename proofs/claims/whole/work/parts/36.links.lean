/-! the class's links of a page -/
abbrev Lk : Type := Nat × Option Anc × Nat × Nat
def lkEl (own at_ : Nat) (e : Elem) : List Lk := match e with
  | .inl _ => []
  | .inr (l, a) => [(l.getD own, a, at_ + 1, at_ + 1 + (txLink l a).length)]
def lkEls (own : Nat) : Nat → List Elem → List Lk
  | _, [] => []
  | at_, e :: r => lkEl own at_ e ++ lkEls own (at_ + (txEl e).length + 1) r
def lkLine (own at_ : Nat) (l : Line) : List Lk := match l with
  | .inr (.inr es) => lkEls own at_ es
  | _ => []
def lkPg (own : Nat) : Nat → List Line → List Lk
  | _, [] => []
  | at_, l :: r => lkLine own at_ l ++ lkPg own (at_ + (txLine l).length + 1) r
def LinkC (σ : Hp) (p j : Nat) (k : Lk) : Prop := hI σ 26 p j = nI k.1 ∧ hL σ 27 p j = lN (anO k.2.1) ∧ hI σ 28 p j = nI k.2.2.1 ∧ hI σ 29 p j = nI k.2.2.2
def LF (p f i : Nat) : Prop := (f = 21 ∨ (26 ≤ f ∧ f ≤ 29)) ∧ i = p
def LI (σ h : Hp) (p : Nat) (dn : List Lk) : Prop := hI h 21 p 8 = nI dn.length ∧ All dn (LinkC h p) ∧ (∀ k, k ≠ 8 → hI h 21 p k = hI σ 21 p k) ∧ Fr (LF p) σ h
theorem LI_tx {σ h : Hp} {p : Nat} {dn : List Lk} (hi : LI σ h p dn) : hI h 9 0 = hI σ 9 0 := (hi.2.2.2.2 9 0 (fun q => by rcases q.1 with e | e <;> omega)).1
def noBr (w : List Nat) : Prop := ∀ y ∈ w, y < 128 ∧ y ≠ 91 ∧ y ≠ 93
theorem txLink_nb {l : Option Nat} {a : Option Anc} (hl : ∀ p, l = some p → p < 12) (ha : gAO a) : noBr (txLink l a) := fun y hy => by
  rcases List.mem_append.mp hy with q | q
  · cases l with
    | none => cases q
    | some p =>
      have := hl p rfl
      rw [List.mem_singleton.mp q]
      omega
  · cases a with
    | none => cases q
    | some x =>
      rcases List.mem_cons.mp q with e | e
      · rw [e]; decide
      · have := txAnc_s (ha x rfl) y e
        omega
theorem gName_nb {w : List Nat} (h : gName w) : noBr w := fun y hy => by
  have := sm_rest (gName_r h).1 y hy
  omega
section
variable {σ : Hp} {p o x own : Nat} {full : List Lk} {Q : Option AV → Hp → Prop} {d : Nat}
theorem s_skip (hp : p < 12) (hx : x ≤ 1920) (hf : full.length ≤ 40) (hQ : ∀ h, LI σ h p full → Q none h) {h : Hp} {dn rest : List Lk} (hi : LI σ h p dn) (hr : full = dn ++ rest) (b : Nat) : ∀ (w : List Nat) (a : Nat), noBr w → Tx (hI σ 9 0) a w → a + w.length ≤ x → Sat true (d + 3) 26 σ.1 Q 6 [some (vr 21 p), some (vr 9 0), some (vi (nI o)), some (vi (nI x)), some (vi (nI b)), some (vi (nI (a + w.length)))] [] h → Sat true (d + 3) 26 σ.1 Q 6 [some (vr 21 p), some (vr 9 0), some (vi (nI o)), some (vi (nI x)), some (vi (nI b)), some (vi (nI a))] [] h := by
  intro w
  induction w with
  | nil => intro a _ _ _ k; exact k
  | cons c w ih =>
    intro a hn ht hl k
    obtain ⟨t1, t2⟩ := ht
    obtain ⟨c1, c2, c3⟩ := hn c List.mem_cons_self
    have el : a + (c :: w).length = a + 1 + w.length := by rw [List.length_cons]; omega
    rw [el] at k hl
    have k2 := ih (a + 1) (fun y hy => hn y (List.mem_cons_of_mem _ hy)) t2 hl k
    have hd : dn.length ≤ 40 := by rw [hr, List.length_append] at hf; omega
    have h8 := hi.1
    have t1' : hI h 9 0 a = nI c := by rw [LI_tx hi]; exact t1
    have i1 : vp_in (nI a) 1920 := inb (by omega) (by omega)
    refine wp_ok (cut := [6, 48]) ma_26 rfl 19 _ _ _ _ ?_
    show (((nI x) ≤ (nI a) → (Q none h ∧ h.1 = σ.1)) ∧ (¬ (nI x) ≤ (nI a) → (p < 12 ∧ (((nI 40) ≤ (hI h 21 p 8) → (Q none h ∧ h.1 = σ.1)) ∧ (¬ (nI 40) ≤ (hI h 21 p 8) → (vp_in (nI a) 1920 ∧ ((¬ (hI h 9 0 ((nI a).toNatClampNeg)) = (nI 91) → (vp_in (nI a) 1920 ∧ ((¬ (hI h 9 0 ((nI a).toNatClampNeg)) = (nI 93) → Sat true (d + 3) 26 σ.1 Q 6 [some (vr 21 p), some (vr 9 0), some (vi (nI o)), some (vi (nI x)), some (vi (nI b)), some (vi ((nI a) + nI 1))] [] h) ∧ ((hI h 9 0 ((nI a).toNatClampNeg)) = (nI 93) → Sat true (d + 3) 26 σ.1 Q 48 [some (vr 21 p), some (vr 9 0), some (vi (nI o)), some (vi (nI x)), some (vi (nI b)), some (vi (nI a))] [] h)))) ∧ ((hI h 9 0 ((nI a).toNatClampNeg)) = (nI 91) → Sat true (d + 3) 26 σ.1 Q 6 [some (vr 21 p), some (vr 9 0), some (vi (nI o)), some (vi (nI x)), some (vi ((nI a) + (nI 1))), some (vi ((nI a) + nI 1))] [] h))))))))
    refine br_le (by omega) (by omega) (fun g => by omega) (fun _ => ⟨hp, ?_⟩)
    rw [h8]
    refine br_le (by omega) (by omega) (fun g => ?_) (fun _ => ?_)
    · have e : rest = [] := by
        have : full.length = dn.length + rest.length := by rw [hr, List.length_append]
        exact List.eq_nil_of_length_eq_zero (by omega)
      rw [e, List.append_nil] at hr
      rw [← hr] at hi
      exact ⟨hQ h hi, hi.2.2.2.1⟩
    · rw [ix (by omega), t1', addN]
      exact ⟨i1, br_ne (by omega) (by omega) (fun _ => ⟨i1, br_ne (by omega) (by omega) (fun _ => k2) (fun g => absurd g c3)⟩) (fun g => absurd g c2)⟩
set_option maxRecDepth 4000 in
theorem s_close (hp : p < 12) (hx : x ≤ 1920) (h0 : hI σ 21 p 0 = nI p) {h : Hp} {dn : List Lk} (hi : LI σ h p dn) (hd : dn.length < 40) {l : Option Nat} {c : Option Anc} (hl : ∀ q, l = some q → q < 12) (hc : gAO c) (hn : l = none → c ≠ none) {b a : Nat} (ht : Tx (hI σ 9 0) b (txLink l c)) (ha : a = b + (txLink l c).length) (hax : a < x) (k : ∀ h', LI σ h' p (dn ++ [(l.getD p, c, b, a)]) → Sat true (d + 3) 26 σ.1 Q 6 [some (vr 21 p), some (vr 9 0), some (vi (nI o)), some (vi (nI x)), some (vi (nI b)), some (vi (nI (a + 1)))] [] h') : Sat true (d + 3) 26 σ.1 Q 48 [some (vr 21 p), some (vr 9 0), some (vi (nI o)), some (vi (nI x)), some (vi (nI b)), some (vi (nI a))] [] h := by
  have hT : hI h 9 0 = hI σ 9 0 := LI_tx hi
  have h8 := hi.1
  have h0' : hI h 21 p 0 = nI p := by rw [hi.2.2.1 0 (by decide)]; exact h0
  have i1 : vp_in (nI b) 1920 := inb (by omega) (by omega)
  have i2 : vp_in (nI dn.length) 40 := inb (by omega) (by omega)
  have hlen : l = none → 1 ≤ (txLink l c).length := by
    intro e
    subst e
    cases c with
    | none => exact absurd rfl (hn rfl)
    | some z => show 1 ≤ (35 :: txAnc z).length; rw [List.length_cons]; omega
  have tail : ∀ v : Int32, v = nI (l.getD p) → CalL true (d + 2) 3 [vr 9 0, vi (nI b), vi (nI a)] (setI h 26 p dn.length v) σ.1 (fun x1 s1 => (vp_in (nI dn.length) 40 ∧ (vp_in (hI s1 21 p 8) 40 ∧ (vp_in (hI s1 21 p 8) 40 ∧ Sat true (d + 3) 26 σ.1 Q 6 [some (vr 21 p), some (vr 9 0), some (vi (nI o)), some (vi (nI x)), some (vi (nI b)), some (vi (nI (a + 1)))] [] (setI (setI (setI (setL s1 27 p dn.length x1) 28 p (hI s1 21 p 8).toNatClampNeg (nI b)) 29 p (hI s1 21 p 8).toNatClampNeg (nI a)) 21 p 8 (hI s1 21 p 8 + nI 1)))))) := by
    intro v hv
    have t9 : Tx (hI (setI h 26 p dn.length v) 9 0) b (txLink l c) := by
      rw [hI_f _ _ _ (Or.inl (by decide)), hT]
      exact ht
    refine cal_l (e_placeAnchor9 d hl hc t9 ha (by omega)) (hi.2.2.2.1) ?_
    have e8 : hI (setI h 26 p dn.length v) 21 p 8 = nI dn.length := by rw [hI_f _ _ _ (Or.inl (by decide))]; exact h8
    rw [e8, ix (by omega), addN]
    refine ⟨i2, i2, i2, k _ ⟨?_, ?_, fun j hj => ?_, ?_⟩⟩
    · rw [hI_s, List.length_append]; rfl
    · refine All_snoc hi.2.1 (fun j y hj q => ?_) ?_
      · obtain ⟨q1, q2, q3, q4⟩ := q
        refine ⟨?_, ?_, ?_, ?_⟩
        · simp (disch := omega) only [hI_s, hI_k, hI_f, hI_sL, hL_sI, hL_s, hL_k, hL_f]
          exact q1
        · simp (disch := omega) only [hI_s, hI_k, hI_f, hI_sL, hL_sI, hL_s, hL_k, hL_f]
          exact q2
        · simp (disch := omega) only [hI_s, hI_k, hI_f, hI_sL, hL_sI, hL_s, hL_k, hL_f]
          exact q3
        · simp (disch := omega) only [hI_s, hI_k, hI_f, hI_sL, hL_sI, hL_s, hL_k, hL_f]
          exact q4
      · refine ⟨?_, ?_, ?_, ?_⟩
        · simp (disch := omega) only [hI_s, hI_k, hI_f, hI_sL, hL_sI, hL_s, hL_k, hL_f]
          exact hv
        · simp (disch := omega) only [hI_s, hI_k, hI_f, hI_sL, hL_sI, hL_s, hL_k, hL_f]
        · simp (disch := omega) only [hI_s, hI_k, hI_f, hI_sL, hL_sI, hL_s, hL_k, hL_f]
        · simp (disch := omega) only [hI_s, hI_k, hI_f, hI_sL, hL_sI, hL_s, hL_k, hL_f]
    · simp (disch := omega) only [hI_s, hI_k, hI_f, hI_sL, hL_sI, hL_s, hL_k, hL_f]
      exact hi.2.2.1 j hj
    · exact ((((hi.2.2.2.sI (f := 26) ⟨Or.inr (by omega), rfl⟩ _ _).sL (f := 27) ⟨Or.inr (by omega), rfl⟩ _ _).sI (f := 28) ⟨Or.inr (by omega), rfl⟩ _ _).sI (f := 29) ⟨Or.inr (by omega), rfl⟩ _ _).sI (f := 21) ⟨Or.inl rfl, rfl⟩ _ _
  refine wp_ok (cut := [6]) ma_26 rfl 44 _ _ _ _ ?_
  show (p < 12 ∧ (p < 12 ∧ (vp_in (nI b) 1920 ∧ ((¬ (hI h 9 0 ((nI b).toNatClampNeg)) = (nI 35) → (vp_in (nI b) 1920 ∧ (p < 12 ∧ (vp_in (hI h 21 p 8) 40 ∧ (p < 12 ∧ (p < 12 ∧ CalL true (d + 2) 3 [vr 9 0, vi (nI b), vi (nI a)] (setI h 26 p ((hI h 21 p 8).toNatClampNeg) ((hI h 9 0 ((nI b).toNatClampNeg)) - (nI 65))) σ.1 (fun x2 s1 => (p < 12 ∧ (vp_in (hI h 21 p 8) 40 ∧ (p < 12 ∧ (p < 12 ∧ (p < 12 ∧ (vp_in (hI s1 21 p 8) 40 ∧ (p < 12 ∧ (p < 12 ∧ (p < 12 ∧ (vp_in (hI s1 21 p 8) 40 ∧ (p < 12 ∧ (p < 12 ∧ Sat true (d + 3) 26 σ.1 Q 6 [some (vr 21 p), some (vr 9 0), some (vi (nI o)), some (vi (nI x)), some (vi (nI b)), some (vi ((nI a) + nI 1))] [] (setI (setI (setI (setL s1 27 p ((hI h 21 p 8).toNatClampNeg) x2) 28 p ((hI s1 21 p 8).toNatClampNeg) (nI b)) 29 p ((hI s1 21 p 8).toNatClampNeg) (nI a)) 21 p 8 ((hI s1 21 p 8) + (nI 1)))))))))))))))))))))) ∧ ((hI h 9 0 ((nI b).toNatClampNeg)) = (nI 35) → (p < 12 ∧ (p < 12 ∧ (vp_in (hI h 21 p 8) 40 ∧ (p < 12 ∧ (p < 12 ∧ CalL true (d + 2) 3 [vr 9 0, vi (nI b), vi (nI a)] (setI h 26 p ((hI h 21 p 8).toNatClampNeg) (hI h 21 p 0)) σ.1 (fun x4 s3 => (p < 12 ∧ (vp_in (hI h 21 p 8) 40 ∧ (p < 12 ∧ (p < 12 ∧ (p < 12 ∧ (vp_in (hI s3 21 p 8) 40 ∧ (p < 12 ∧ (p < 12 ∧ (p < 12 ∧ (vp_in (hI s3 21 p 8) 40 ∧ (p < 12 ∧ (p < 12 ∧ Sat true (d + 3) 26 σ.1 Q 6 [some (vr 21 p), some (vr 9 0), some (vi (nI o)), some (vi (nI x)), some (vi (nI b)), some (vi ((nI a) + nI 1))] [] (setI (setI (setI (setL s3 27 p ((hI h 21 p 8).toNatClampNeg) x4) 28 p ((hI s3 21 p 8).toNatClampNeg) (nI b)) 29 p ((hI s3 21 p 8).toNatClampNeg) (nI a)) 21 p 8 ((hI s3 21 p 8) + (nI 1))))))))))))))))))))))))))
  simp only [hp, true_and]
  rw [h8, ix (by omega), ix (by omega), addN, hT, h0']
  cases l with
  | none =>
    have t1 : hI σ 9 0 b = nI 35 := by
      cases c with
      | none => exact absurd rfl (hn rfl)
      | some z => exact ht.1
    rw [t1]
    exact ⟨i1, fun g => absurd rfl g, fun _ => ⟨i2, tail _ rfl⟩⟩
  | some q =>
    have hq := hl q rfl
    have t1 : hI σ 9 0 b = nI (65 + q) := ht.1
    rw [t1, subN (by omega)]
    refine ⟨i1, br_ne (by omega) (by omega) (fun _ => ⟨i1, i2, tail _ ?_⟩) (fun g => by omega)⟩
    rw [show 65 + q - 65 = q by omega]
    rfl
theorem s_els (hp : p < 12) (hx : x ≤ 1920) (h0 : hI σ 21 p 0 = nI p) (hf : full.length ≤ 40) (hQ : ∀ h, LI σ h p full → Q none h) : ∀ (es : List Elem) (a b : Nat) (h : Hp) (dn rest : List Lk), (∀ e ∈ es, gEl e) → Tx (hI σ 9 0) a (txEls es) → a + (txEls es).length ≤ x → LI σ h p dn → full = dn ++ (lkEls p a es ++ rest) → (∀ h' b', LI σ h' p (dn ++ lkEls p a es) → Sat true (d + 3) 26 σ.1 Q 6 [some (vr 21 p), some (vr 9 0), some (vi (nI o)), some (vi (nI x)), some (vi (nI b')), some (vi (nI (a + (txEls es).length)))] [] h') → Sat true (d + 3) 26 σ.1 Q 6 [some (vr 21 p), some (vr 9 0), some (vi (nI o)), some (vi (nI x)), some (vi (nI b)), some (vi (nI a))] [] h := by
  intro es
  induction es with
  | nil =>
    intro a b h dn rest _ _ _ hi _ k
    exact k h b (by rw [show lkEls p a [] = [] from rfl, List.append_nil]; exact hi)
  | cons e r ih =>
    intro a b h dn rest hg ht hl hi hfu k
    have ge := hg e List.mem_cons_self
    have gr : ∀ y ∈ r, gEl y := fun y hy => hg y (List.mem_cons_of_mem _ hy)
    -- the element itself
    have one : ∀ (h : Hp) (dn rest : List Lk) (b : Nat), Tx (hI σ 9 0) a (txEl e) → a + (txEl e).length ≤ x → LI σ h p dn → full = dn ++ (lkEl p a e ++ rest) → (∀ h' b', LI σ h' p (dn ++ lkEl p a e) → Sat true (d + 3) 26 σ.1 Q 6 [some (vr 21 p), some (vr 9 0), some (vi (nI o)), some (vi (nI x)), some (vi (nI b')), some (vi (nI (a + (txEl e).length)))] [] h') → Sat true (d + 3) 26 σ.1 Q 6 [some (vr 21 p), some (vr 9 0), some (vi (nI o)), some (vi (nI x)), some (vi (nI b)), some (vi (nI a))] [] h := by
      intro h dn rest b ht hl hi hfu k
      rcases e with w | ⟨l, c⟩
      · exact s_skip hp hx hf hQ hi hfu b w a (gName_nb ge) ht hl (k h b (by rw [show lkEl p a (.inl w) = [] from rfl, List.append_nil]; exact hi))
      · obtain ⟨g1, g2, g3⟩ := ge
        obtain ⟨t1, t2⟩ := ht
        obtain ⟨t3, t4, _⟩ := Tx_app.mp t2
        have e5 : (txEl (.inr (l, c))).length = (txLink l c).length + 2 := by
          show (91 :: (txLink l c ++ [93])).length = _
          rw [List.length_cons, List.length_append]
          rfl
        rw [e5] at hl k
        have hdl : dn.length < 40 := by
          rw [hfu, List.length_append, List.length_append] at hf
          have : (lkEl p a (.inr (l, c))).length = 1 := rfl
          omega
        have hT : hI h 9 0 = hI σ 9 0 := LI_tx hi
        have h8 := hi.1
        -- the closing bracket
        have kc : Sat true (d + 3) 26 σ.1 Q 6 [some (vr 21 p), some (vr 9 0), some (vi (nI o)), some (vi (nI x)), some (vi (nI (a + 1))), some (vi (nI (a + 1 + (txLink l c).length)))] [] h := by
          have kk := s_close (d := d) (o := o) (Q := Q) hp hx h0 hi hdl g1 g2 g3 t3 rfl (by omega) (fun h' hi' => by
            have := k h' (a + 1) hi'
            rw [show a + ((txLink l c).length + 2) = a + 1 + (txLink l c).length + 1 by omega] at this
            exact this)
          have i1 : vp_in (nI (a + 1 + (txLink l c).length)) 1920 := inb (by omega) (by omega)
          refine wp_ok (cut := [6, 48]) ma_26 rfl 19 _ _ _ _ ?_
          show (((nI x) ≤ (nI (a + 1 + (txLink l c).length)) → (Q none h ∧ h.1 = σ.1)) ∧ (¬ (nI x) ≤ (nI (a + 1 + (txLink l c).length)) → (p < 12 ∧ (((nI 40) ≤ (hI h 21 p 8) → (Q none h ∧ h.1 = σ.1)) ∧ (¬ (nI 40) ≤ (hI h 21 p 8) → (vp_in (nI (a + 1 + (txLink l c).length)) 1920 ∧ ((¬ (hI h 9 0 ((nI (a + 1 + (txLink l c).length)).toNatClampNeg)) = (nI 91) → (vp_in (nI (a + 1 + (txLink l c).length)) 1920 ∧ ((¬ (hI h 9 0 ((nI (a + 1 + (txLink l c).length)).toNatClampNeg)) = (nI 93) → Sat true (d + 3) 26 σ.1 Q 6 [some (vr 21 p), some (vr 9 0), some (vi (nI o)), some (vi (nI x)), some (vi (nI (a + 1))), some (vi ((nI (a + 1 + (txLink l c).length)) + nI 1))] [] h) ∧ ((hI h 9 0 ((nI (a + 1 + (txLink l c).length)).toNatClampNeg)) = (nI 93) → Sat true (d + 3) 26 σ.1 Q 48 [some (vr 21 p), some (vr 9 0), some (vi (nI o)), some (vi (nI x)), some (vi (nI (a + 1))), some (vi (nI (a + 1 + (txLink l c).length)))] [] h)))) ∧ ((hI h 9 0 ((nI (a + 1 + (txLink l c).length)).toNatClampNeg)) = (nI 91) → Sat true (d + 3) 26 σ.1 Q 6 [some (vr 21 p), some (vr 9 0), some (vi (nI o)), some (vi (nI x)), some (vi ((nI (a + 1 + (txLink l c).length)) + (nI 1))), some (vi ((nI (a + 1 + (txLink l c).length)) + nI 1))] [] h))))))))
          refine br_le (by omega) (by omega) (fun g => by omega) (fun _ => ⟨hp, ?_⟩)
          rw [h8]
          refine br_le (by omega) (by omega) (fun g => by omega) (fun _ => ?_)
          rw [ix (by omega), hT, t4]
          exact ⟨i1, fun g => ⟨i1, fun g => absurd rfl g, fun _ => kk⟩, fun g => absurd g (by decide)⟩
        have ks := s_skip (d := d) (o := o) hp hx hf hQ hi hfu (a + 1) (txLink l c) (a + 1) (txLink_nb g1 g2) t3 (by omega) kc
        have i1 : vp_in (nI a) 1920 := inb (by omega) (by omega)
        refine wp_ok (cut := [6, 48]) ma_26 rfl 19 _ _ _ _ ?_
        show (((nI x) ≤ (nI a) → (Q none h ∧ h.1 = σ.1)) ∧ (¬ (nI x) ≤ (nI a) → (p < 12 ∧ (((nI 40) ≤ (hI h 21 p 8) → (Q none h ∧ h.1 = σ.1)) ∧ (¬ (nI 40) ≤ (hI h 21 p 8) → (vp_in (nI a) 1920 ∧ ((¬ (hI h 9 0 ((nI a).toNatClampNeg)) = (nI 91) → (vp_in (nI a) 1920 ∧ ((¬ (hI h 9 0 ((nI a).toNatClampNeg)) = (nI 93) → Sat true (d + 3) 26 σ.1 Q 6 [some (vr 21 p), some (vr 9 0), some (vi (nI o)), some (vi (nI x)), some (vi (nI b)), some (vi ((nI a) + nI 1))] [] h) ∧ ((hI h 9 0 ((nI a).toNatClampNeg)) = (nI 93) → Sat true (d + 3) 26 σ.1 Q 48 [some (vr 21 p), some (vr 9 0), some (vi (nI o)), some (vi (nI x)), some (vi (nI b)), some (vi (nI a))] [] h)))) ∧ ((hI h 9 0 ((nI a).toNatClampNeg)) = (nI 91) → Sat true (d + 3) 26 σ.1 Q 6 [some (vr 21 p), some (vr 9 0), some (vi (nI o)), some (vi (nI x)), some (vi ((nI a) + (nI 1))), some (vi ((nI a) + nI 1))] [] h))))))))
        refine br_le (by omega) (by omega) (fun g => by omega) (fun _ => ⟨hp, ?_⟩)
        rw [h8]
        refine br_le (by omega) (by omega) (fun g => by omega) (fun _ => ?_)
        rw [ix (by omega), hT, t1, addN]
        exact ⟨i1, fun g => absurd rfl g, fun _ => ks⟩
    cases r with
    | nil =>
      have e1 : lkEls p a [e] = lkEl p a e := List.append_nil _
      rw [e1] at hfu k
      exact one h dn rest b ht hl hi hfu k
    | cons f r' =>
      have ht : Tx (hI σ 9 0) a (txEl e ++ 44 :: txEls (f :: r')) := ht
      obtain ⟨t1, t2, t3⟩ := Tx_app.mp ht
      have e1 : (txEls (e :: f :: r')).length = (txEl e).length + (1 + (txEls (f :: r')).length) := by
        show (txEl e ++ 44 :: txEls (f :: r')).length = _
        rw [List.length_append, List.length_cons]
        omega
      have e2 : lkEls p a (e :: f :: r') = lkEl p a e ++ lkEls p (a + (txEl e).length + 1) (f :: r') := rfl
      rw [e1] at hl k
      rw [e2, List.append_assoc] at hfu
      rw [e2] at k
      refine one h dn _ b t1 (by omega) hi hfu (fun h' b' hi' => ?_)
      have hfu2 : full = (dn ++ lkEl p a e) ++ (lkEls p (a + (txEl e).length + 1) (f :: r') ++ rest) := by rw [hfu, List.append_assoc]
      refine s_skip (d := d) (o := o) hp hx hf hQ hi' hfu2 b' [44] (a + (txEl e).length) (fun y hy => by rw [List.mem_singleton.mp hy]; decide) ⟨t2, trivial⟩ (by show a + (txEl e).length + 1 ≤ x; omega) ?_
      refine ih (a + (txEl e).length + 1) b' h' (dn ++ lkEl p a e) rest gr t3 (by omega) hi' hfu2 (fun h2 b2 hi2 => ?_)
      rw [List.append_assoc] at hi2
      have := k h2 b2 hi2
      rw [show a + ((txEl e).length + (1 + (txEls (f :: r')).length)) = a + (txEl e).length + 1 + (txEls (f :: r')).length by omega] at this
      exact this
theorem txLine_nb {l : Line} (h : gLine l) (hn : ∀ es, l ≠ .inr (.inr es)) : noBr (txLine l) := by
  rcases l with ⟨v, w⟩ | ⟨q, s⟩ | es
  · intro y hy
    rcases List.mem_append.mp hy with e | e
    · rw [(List.mem_replicate.mp e).2]; decide
    · exact gName_nb h.2.2 y e
  · obtain ⟨h1, h2⟩ := h
    intro y hy
    cases s with
    | none =>
      have hy : y ∈ [123, 65 + q, 125] := hy
      simp only [List.mem_cons, List.not_mem_nil, or_false] at hy
      omega
    | some z =>
      have := h2 z rfl
      have hy : y ∈ [123, 65 + q, 43, 48 + z, 125] := hy
      simp only [List.mem_cons, List.not_mem_nil, or_false] at hy
      omega
  · exact absurd rfl (hn es)
theorem s_lines (hp : p < 12) (hx : x ≤ 1920) (h0 : hI σ 21 p 0 = nI p) (hf : full.length ≤ 40) (hQ : ∀ h, LI σ h p full → Q none h) : ∀ (ls : List Line) (a b : Nat) (h : Hp) (dn : List Lk), gPg ls → Tx (hI σ 9 0) a (txPg ls) → x = a + (txPg ls).length → LI σ h p dn → full = dn ++ lkPg p a ls → Sat true (d + 3) 26 σ.1 Q 6 [some (vr 21 p), some (vr 9 0), some (vi (nI o)), some (vi (nI x)), some (vi (nI b)), some (vi (nI a))] [] h := by
  intro ls
  have fin : ∀ (b : Nat) (h : Hp), LI σ h p full → Sat true (d + 3) 26 σ.1 Q 6 [some (vr 21 p), some (vr 9 0), some (vi (nI o)), some (vi (nI x)), some (vi (nI b)), some (vi (nI x))] [] h := by
    intro b h hi
    refine wp_ok (cut := [6, 48]) ma_26 rfl 19 _ _ _ _ ?_
    show (((nI x) ≤ (nI x) → (Q none h ∧ h.1 = σ.1)) ∧ (¬ (nI x) ≤ (nI x) → (p < 12 ∧ (((nI 40) ≤ (hI h 21 p 8) → (Q none h ∧ h.1 = σ.1)) ∧ (¬ (nI 40) ≤ (hI h 21 p 8) → (vp_in (nI x) 1920 ∧ ((¬ (hI h 9 0 ((nI x).toNatClampNeg)) = (nI 91) → (vp_in (nI x) 1920 ∧ ((¬ (hI h 9 0 ((nI x).toNatClampNeg)) = (nI 93) → Sat true (d + 3) 26 σ.1 Q 6 [some (vr 21 p), some (vr 9 0), some (vi (nI o)), some (vi (nI x)), some (vi (nI b)), some (vi ((nI x) + nI 1))] [] h) ∧ ((hI h 9 0 ((nI x).toNatClampNeg)) = (nI 93) → Sat true (d + 3) 26 σ.1 Q 48 [some (vr 21 p), some (vr 9 0), some (vi (nI o)), some (vi (nI x)), some (vi (nI b)), some (vi (nI x))] [] h)))) ∧ ((hI h 9 0 ((nI x).toNatClampNeg)) = (nI 91) → Sat true (d + 3) 26 σ.1 Q 6 [some (vr 21 p), some (vr 9 0), some (vi (nI o)), some (vi (nI x)), some (vi ((nI x) + (nI 1))), some (vi ((nI x) + nI 1))] [] h))))))))
    exact ⟨fun _ => ⟨hQ h hi, hi.2.2.2.1⟩, fun g => absurd (Int32.le_refl _) g⟩
  induction ls with
  | nil =>
    intro a b h dn _ _ hxa hi hfu
    have hxa : x = a := hxa
    rw [show lkPg p a [] = [] from rfl, List.append_nil] at hfu
    rw [← hfu] at hi
    rw [← hxa]
    exact fin b h hi
  | cons l r ih =>
    intro a b h dn hg ht hxa hi hfu
    have gl := hg l List.mem_cons_self
    have gr : gPg r := fun y hy => hg y (List.mem_cons_of_mem _ hy)
    have hfu : full = dn ++ (lkLine p a l ++ lkPg p (a + (txLine l).length + 1) r) := hfu
    have one : ∀ (rest : List Lk), Tx (hI σ 9 0) a (txLine l) → a + (txLine l).length ≤ x → full = dn ++ (lkLine p a l ++ rest) → (∀ h' b', LI σ h' p (dn ++ lkLine p a l) → Sat true (d + 3) 26 σ.1 Q 6 [some (vr 21 p), some (vr 9 0), some (vi (nI o)), some (vi (nI x)), some (vi (nI b')), some (vi (nI (a + (txLine l).length)))] [] h') → Sat true (d + 3) 26 σ.1 Q 6 [some (vr 21 p), some (vr 9 0), some (vi (nI o)), some (vi (nI x)), some (vi (nI b)), some (vi (nI a))] [] h := by
      intro rest ht hl hfu k
      rcases l with vw | qs | es
      · exact s_skip hp hx hf hQ hi hfu b _ a (txLine_nb gl (fun es q => by cases q)) ht hl (k h b (by rw [show lkLine p a (.inl vw) = [] from rfl, List.append_nil]; exact hi))
      · exact s_skip hp hx hf hQ hi hfu b _ a (txLine_nb gl (fun es q => by cases q)) ht hl (k h b (by rw [show lkLine p a (.inr (.inl qs)) = [] from rfl, List.append_nil]; exact hi))
      · exact s_els hp hx h0 hf hQ es a b h dn rest gl.2 ht hl hi hfu k
    cases r with
    | nil =>
      have hxa : x = a + (txLine l).length := hxa
      refine one [] ht (by omega) hfu (fun h' b' hi' => ?_)
      rw [← hxa]
      refine fin b' h' ?_
      rw [show lkPg p (a + (txLine l).length + 1) [] = [] from rfl, List.append_nil] at hfu
      rw [hfu]
      exact hi'
    | cons f r' =>
      have ht : Tx (hI σ 9 0) a (txLine l ++ 59 :: txPg (f :: r')) := ht
      obtain ⟨t1, t2, t3⟩ := Tx_app.mp ht
      have hxa : x = a + (txLine l ++ 59 :: txPg (f :: r')).length := hxa
      rw [List.length_append, List.length_cons] at hxa
      refine one _ t1 (by omega) hfu (fun h' b' hi' => ?_)
      have hfu2 : full = (dn ++ lkLine p a l) ++ lkPg p (a + (txLine l).length + 1) (f :: r') := by rw [hfu, List.append_assoc]
      refine s_skip (d := d) (o := o) hp hx hf hQ hi' hfu2 b' [59] (a + (txLine l).length) (fun y hy => by rw [List.mem_singleton.mp hy]; decide) ⟨t2, trivial⟩ (by show a + (txLine l).length + 1 ≤ x; omega) ?_
      exact ih (a + (txLine l).length + 1) b' h' (dn ++ lkLine p a l) gr t3 (by omega) hi' hfu2
end
