/-! the model: layExpansion, layAll -/
def XMF (σ h : Hp) (r : Nat) (x : XA) : Prop := hI h 239 0 r = nI x.1 ∧ hI h 240 0 r = x.2.1 ∧ hI h 241 0 r = nI x.2.2.1.length ∧ All x.2.2.1 (HedM h r x.2.2.1) ∧ (∀ j, j < 54 → hI h 249 0 (54 * r + j) = hoF (fun j => hI σ 249 0 (54 * r + j)) 0 x.2.2.1 j) ∧ FrM (SEx r) σ h
theorem MI_step {P : Nat → List Line} (hP : gP P) {st st' : XS} {x x' : XA} (h : xStep P (st, x) = some (st', x')) (mi : MI P st x) : MI P st' x' := by
  cases st with
  | nil => cases h
  | cons e rest =>
    obtain ⟨p, j, add⟩ := e
    have hlt : x.1 < 100 := by
      by_cases g : 100 ≤ x.1
      · rw [xStep_h g] at h
        cases h
      · omega
    have h : (match (P p)[j]? with
      | none => some (rest, x)
      | some l => some (xLine P p j add rest l x)) = some (st', x') := by
      have : xStep P ((p, j, add) :: rest, x) = _ := if_neg (by omega : ¬ 100 ≤ x.1)
      rw [this] at h
      exact h
    cases hl : (P p)[j]? with
    | none =>
      rw [hl] at h
      cases h
      exact ⟨okSt_tail mi.1, mi.2.1.2.2.2, oB_tail mi.2.2.1, mi.2.2.2⟩
    | some l =>
      rw [hl] at h
      have h := Option.some.inj h
      have := MI_line hP mi hlt hl
      rw [h] at this
      exact this
section
variable {σ : Hp} {P : Nat → List Line} {r : Nat} {Q : Option AV → Hp → Prop} {d : Nat}
set_option maxRecDepth 6000 in
theorem s_exLoop (hr : r < 12) (hP : gP P) (hS : ∀ q, q < 12 → SrcM σ q (P q)) {stf : XS} {xf : XA} (hfin : xStep P (stf, xf) = none) (hq : ∀ h, XM σ h P r stf xf → Q none h) : ∀ (n : Nat) (st : XS) (x : XA) (h : Hp), xIt P n (st, x) = some (stf, xf) → MI P st x → XM σ h P r st x → Sat true (d + 3) 156 σ.1 Q 65 (exL r x.2.2.2 none none none none none none none) [] h := by
  intro n
  induction n with
  | zero =>
    intro st x h e mi k
    cases e
    have hB := k.2.2.2.2.2.2.2.2.2.2.1
    have e30 : hI h 233 0 30 = nI stf.length := k.2.2.2.2.2.2.2.1
    have e239 : hI h 239 0 r = nI xf.1 := k.1
    have x100 := mi.2.2.2.2.1
    have sl := okSt_len mi.1
    have mi2 : 0 < stf.length → 100 ≤ xf.1 := by
      intro g
      cases stf with
      | nil => cases g
      | cons e rest =>
        obtain ⟨p, j, add⟩ := e
        by_cases g : 100 ≤ xf.1
        · exact g
        · have hst : xStep P ((p, j, add) :: rest, xf) = _ := if_neg g
          rw [hst] at hfin
          cases hl : (P p)[j]? with
          | none =>
            rw [hl] at hfin
            cases hfin
          | some l =>
            rw [hl] at hfin
            cases hfin
    refine wp_ok (cut := [65, 145]) ma_156 rfl 46 _ _ _ _ ?_
    show (((hI h 233 0 30) ≤ 0 → (Q none h ∧ h.1 = σ.1)) ∧ (¬ (hI h 233 0 30) ≤ 0 → (vp_in (nI r) 12 ∧ (((nI 100) ≤ (hI h 239 0 ((nI r).toNatClampNeg)) → (Q none h ∧ h.1 = σ.1)) ∧ (¬ (nI 100) ≤ (hI h 239 0 ((nI r).toNatClampNeg)) → (vp_in ((hI h 233 0 30) - (nI 1)) 13 ∧ (vp_in ((hI h 233 0 30) - (nI 1)) 13 ∧ CalI true (d + 2) 110 [vr 233 0, vi (hI h 257 0 (((hI h 233 0 30) - (nI 1)).toNatClampNeg))] h σ.1 (fun x2 s1 => (((hI h 258 0 (((hI h 233 0 30) - (nI 1)).toNatClampNeg)) < x2 → Sat true (d + 3) 156 σ.1 Q 145 [some (vr 233 0), some (vi (nI r)), some (vi (nI xf.2.2.2)), some (vi ((hI h 233 0 30) - (nI 1))), some (vi (hI h 257 0 (((hI h 233 0 30) - (nI 1)).toNatClampNeg))), some (vi (hI h 258 0 (((hI h 233 0 30) - (nI 1)).toNatClampNeg))), none, none, none, none] [] s1) ∧ (¬ (hI h 258 0 (((hI h 233 0 30) - (nI 1)).toNatClampNeg)) < x2 → Sat true (d + 3) 156 σ.1 Q 65 [some (vr 233 0), some (vi (nI r)), some (vi (nI xf.2.2.2)), some (vi ((hI h 233 0 30) - (nI 1))), some (vi (hI h 257 0 (((hI h 233 0 30) - (nI 1)).toNatClampNeg))), some (vi (hI h 258 0 (((hI h 233 0 30) - (nI 1)).toNatClampNeg))), none, none, none, none] [] (setI (setI s1 233 0 30 ((hI s1 233 0 30) - (nI 1))) 233 0 31 ((hI s1 233 0 31) &&& (((nI 1) <<< ((hI h 257 0 (((hI h 233 0 30) - (nI 1)).toNatClampNeg)) &&& 31)) ^^^ (-1))))))))))))))
    rw [e30, ix (by omega), e239]
    exact br_le (b := 0) (by omega) (by omega) (fun _ => ⟨hq h k, hB⟩) (fun g => ⟨inb (by omega) (by omega), br_le (by omega) (by omega) (fun _ => ⟨hq h k, hB⟩) (fun g2 => by have := mi2 g; omega)⟩)
  | succ n ih =>
    intro st x h e mi k
    cases es : xStep P (st, x) with
    | none =>
      unfold xIt at e
      rw [es] at e
      cases e
    | some c' =>
      obtain ⟨st', x'⟩ := c'
      rw [xIt_s es] at e
      exact s_exStep hr hP hS es mi k fun h' k' => ih st' x' h' e (MI_step hP es mi) k'
theorem m_layExpansion (d : Nat) (hr : r < 12) (hP : gP P) (hS : ∀ q, q < 12 → SrcM σ q (P q)) (hne : P r ≠ []) {x : XA} (hx : XFin P r x) : PV (d + 3) 156 [vr 233 0, vi (nI r)] σ (fun h => XMF σ h r x) := by
  refine PV_of mt_156 (Nat.le_of_ble_eq_true rfl) fun Q hq => ?_
  obtain ⟨stf, ⟨n, hn⟩, hf⟩ := hx
  have lp := s_exLoop (Q := Q) (d := d) hr hP hS hf (fun h k => hq h ⟨k.1, k.2.1, k.2.2.1, k.2.2.2.1, k.2.2.2.2.2.2.1, k.2.2.2.2.2.2.2.2.2.2⟩) n [(r, 0, 0)] (0, 0, [], 0)
  have mi : MI P [(r, 0, 0)] (0, 0, [], 0) := by
    refine ⟨⟨fun e he => ?_, ?_⟩, ⟨Nat.le_refl _, Nat.zero_le _, hne, True.intro⟩, rfl, Nat.le_refl _, Nat.zero_le _, Nat.zero_le _⟩
    · cases he with
      | head => exact hr
      | tail _ g => cases g
    · exact List.nodup_cons.mpr ⟨fun g => (by cases g), List.nodup_nil⟩
  -- the counters
  have cl : ∀ (m i : Nat) (h : Hp), i + m = 64 → FrM (SEx r) σ h → hI h 239 0 r = nI 0 → hI h 240 0 r = nI 0 → hI h 241 0 r = nI 0 → hI h 233 0 33 = nI 0 → hI h 233 0 30 = nI 0 → hI h 233 0 31 = nI 0 → hI h 249 0 = hI σ 249 0 → (∀ k, k < i → hI h 260 0 k = nI 0) → Sat true (d + 3) 156 σ.1 Q 38 [some (vr 233 0), some (vi (nI r)), some (vi (nI i)), none, none, none, none, none, none, none] [] h := by
    intro m
    induction m with
    | zero =>
      intro i h hi f z1 z2 z3 z4 z5 z6 z7 z8
      refine wp_ok (cut := [38, 65]) ma_156 rfl 10 _ _ _ _ ?_
      show (((nI 64) ≤ (nI i) → CalV true (d + 2) 152 [vr 233 0, vi (nI r), vi (nI 0)] h σ.1 (fun s1 => Sat true (d + 3) 156 σ.1 Q 65 [some (vr 233 0), some (vi (nI r)), some (vi (nI 0)), none, none, none, none, none, none, none] [] s1)) ∧ (¬ (nI 64) ≤ (nI i) → (vp_in (nI i) 64 ∧ Sat true (d + 3) 156 σ.1 Q 38 [some (vr 233 0), some (vi (nI r)), some (vi ((nI i) + nI 1)), none, none, none, none, none, none, none] [] (setI h 260 0 ((nI i).toNatClampNeg) (nI 0)))))
      refine br_le (by omega) (by omega) (fun _ => cal_v (m_push (d + 2) h (m := 0) (by omega) z5) f.1 ?_) (fun g => by omega)
      refine lp _ hn mi ?_
      have xm0 : XM σ h P r [] (0, 0, [], 0) := ⟨z1, z2, z3, All_nil, fun k hk => z8 k (by omega), z4, fun j hj => (by rw [z7]; rfl), z5, fun q hq => (by rw [z6, bt_0]; rfl), True.intro, f⟩
      exact XM_push (rp := 0) hr xm0
    | succ m ih =>
      intro i h hi f z1 z2 z3 z4 z5 z6 z7 z8
      refine wp_ok (cut := [38, 65]) ma_156 rfl 10 _ _ _ _ ?_
      show (((nI 64) ≤ (nI i) → CalV true (d + 2) 152 [vr 233 0, vi (nI r), vi (nI 0)] h σ.1 (fun s1 => Sat true (d + 3) 156 σ.1 Q 65 [some (vr 233 0), some (vi (nI r)), some (vi (nI 0)), none, none, none, none, none, none, none] [] s1)) ∧ (¬ (nI 64) ≤ (nI i) → (vp_in (nI i) 64 ∧ Sat true (d + 3) 156 σ.1 Q 38 [some (vr 233 0), some (vi (nI r)), some (vi ((nI i) + nI 1)), none, none, none, none, none, none, none] [] (setI h 260 0 ((nI i).toNatClampNeg) (nI 0)))))
      rw [ix (by omega), addN]
      refine br_le (by omega) (by omega) (fun g => by omega) (fun _ => ⟨inb (by omega) (by omega), ih (i + 1) _ (by omega) (f.sI (f := 260) (Or.inl (Or.inr (Or.inr (Or.inr (Or.inr (Or.inl rfl)))))) _) (by simp (disch := omega) only [hI_s, hI_k, hI_f, hI_sL, hL_sI, hL_s, hL_k, hL_f]; exact z1) (by simp (disch := omega) only [hI_s, hI_k, hI_f, hI_sL, hL_sI, hL_s, hL_k, hL_f]; exact z2) (by simp (disch := omega) only [hI_s, hI_k, hI_f, hI_sL, hL_sI, hL_s, hL_k, hL_f]; exact z3) (by simp (disch := omega) only [hI_s, hI_k, hI_f, hI_sL, hL_sI, hL_s, hL_k, hL_f]; exact z4) (by simp (disch := omega) only [hI_s, hI_k, hI_f, hI_sL, hL_sI, hL_s, hL_k, hL_f]; exact z5) (by simp (disch := omega) only [hI_s, hI_k, hI_f, hI_sL, hL_sI, hL_s, hL_k, hL_f]; exact z6) (by simp (disch := omega) only [hI_s, hI_k, hI_f, hI_sL, hL_sI, hL_s, hL_k, hL_f]; exact z7) (fun k hk => ?_)⟩)
      by_cases e : k = i
      · rw [e, hI_s]
      · rw [hI_k _ _ _ _ e]
        exact z8 k (by omega)
  refine wp_ok (cut := [38, 65]) ma_156 rfl 26 _ _ _ _ ?_
  show (vp_in (nI r) 12 ∧ (vp_in (nI r) 12 ∧ (vp_in (nI r) 12 ∧ Sat true (d + 3) 156 σ.1 Q 38 [some (vr 233 0), some (vi (nI r)), some (vi (nI 0)), none, none, none, none, none, none, none] [] (setI (setI (setI (setI (setI (setI σ 239 0 ((nI r).toNatClampNeg) (nI 0)) 240 0 ((nI r).toNatClampNeg) (nI 0)) 241 0 ((nI r).toNatClampNeg) (nI 0)) 233 0 33 (nI 0)) 233 0 30 (nI 0)) 233 0 31 (nI 0)))))
  have i1 : vp_in (nI r) 12 := inb (by omega) (by omega)
  rw [ix (by omega)]
  refine ⟨i1, i1, i1, cl 64 0 _ (by omega) ?_ (by simp (disch := omega) only [hI_s, hI_k, hI_f, hI_sL, hL_sI, hL_s, hL_k, hL_f]) (by simp (disch := omega) only [hI_s, hI_k, hI_f, hI_sL, hL_sI, hL_s, hL_k, hL_f]) (by simp (disch := omega) only [hI_s, hI_k, hI_f, hI_sL, hL_sI, hL_s, hL_k, hL_f]) (by simp (disch := omega) only [hI_s, hI_k, hI_f, hI_sL, hL_sI, hL_s, hL_k, hL_f]) (by simp (disch := omega) only [hI_s, hI_k, hI_f, hI_sL, hL_sI, hL_s, hL_k, hL_f]) (by simp (disch := omega) only [hI_s, hI_k, hI_f, hI_sL, hL_sI, hL_s, hL_k, hL_f]) (by simp (disch := omega) only [hI_s, hI_k, hI_f, hI_sL, hL_sI, hL_s, hL_k, hL_f]) (fun k hk => absurd hk (Nat.not_lt_zero _))⟩
  exact ((((((FrM.rfl' (SEx r) σ).sI (f := 239) (Or.inr (Or.inl ⟨Or.inl rfl, rfl⟩)) _).sI (f := 240) (Or.inr (Or.inl ⟨Or.inr rfl, rfl⟩)) _).sI (f := 241) (Or.inl (Or.inl ⟨rfl, rfl⟩)) _).sI (f := 233) (Or.inl (Or.inr (Or.inr (Or.inr (Or.inr (Or.inr (Or.inr ⟨rfl, rfl⟩))))))) _).sI (f := 233) (Or.inr (Or.inr (Or.inr ⟨rfl, Or.inl rfl⟩))) _).sI (f := 233) (Or.inr (Or.inr (Or.inr ⟨rfl, Or.inr rfl⟩))) _
end
