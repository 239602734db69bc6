/-! calls: mendAll -/
abbrev MSt : Type := Nat × Nat × List DB × DB
noncomputable abbrev wx (x : DB) (p : Nat) (k : Lk) : List Nat := tgW p (bx x k).2.1 (bx x k).2.2.2
noncomputable def mdK (p : Nat) (k : Lk) (s : MSt) : MSt := if brB s.2.2.2.1 (XF s.2.2.2.1) s.2.2.2.2.1 k = true ∧ lenX s.2.2.2 p k (wx s.2.2.2 p k) ≤ 160 then (if s.1 = 0 then (s.1 + 1, kpM s.2.1 s.2.2.1, nxD s.2.2.1 s.2.2.2, wrX s.2.2.2 p k (wx s.2.2.2 p k)) else (s.1 + 1, s.2.1, s.2.2.1, wrX s.2.2.2 p k (wx s.2.2.2 p k))) else s
noncomputable def mdS (p j : Nat) (s : MSt) : MSt := match (lkPg p 0 (s.2.2.2.1 p))[j]? with
  | none => s
  | some k => mdK p k s
noncomputable def mdP (p : Nat) : Nat → Nat → MSt → MSt
  | 0, _, s => s
  | f + 1, j, s => if j < (lkPg p 0 (s.2.2.2.1 p)).length then mdP p f (j + 1) (mdS p j s) else s
noncomputable def mdA : Nat → Nat → MSt → MSt
  | 0, _, s => s
  | f + 1, p, s => mdA f (p + 1) (mdP p 41 0 s)
theorem mdK_m (p : Nat) (k : Lk) (s : MSt) : s.2.1 ≤ (mdK p k s).2.1 ∧ (mdK p k s).1 ≤ s.1 + 1 := by
  unfold mdK
  split
  · split
    · exact ⟨kpM_ge _ _, Nat.le_refl _⟩
    · exact ⟨Nat.le_refl _, Nat.le_refl _⟩
  · exact ⟨Nat.le_refl _, Nat.le_succ _⟩
theorem mdS_m (p j : Nat) (s : MSt) : s.2.1 ≤ (mdS p j s).2.1 ∧ (mdS p j s).1 ≤ s.1 + 1 := by
  unfold mdS
  split
  · exact ⟨Nat.le_refl _, Nat.le_succ _⟩
  · exact mdK_m p _ s
theorem mdP_m (p : Nat) : ∀ (f j : Nat) (s : MSt), s.2.1 ≤ (mdP p f j s).2.1 ∧ (mdP p f j s).1 ≤ s.1 + f := by
  intro f
  induction f with
  | zero => intro j s; exact ⟨Nat.le_refl _, Nat.le_refl _⟩
  | succ f ih =>
    intro j s
    unfold mdP
    split
    · have a := ih (j + 1) (mdS p j s)
      have b := mdS_m p j s
      exact ⟨Nat.le_trans b.1 a.1, by omega⟩
    · exact ⟨Nat.le_refl _, by omega⟩
theorem mdA_m : ∀ (f p : Nat) (s : MSt), s.2.1 ≤ (mdA f p s).2.1 := by
  intro f
  induction f with
  | zero => intro p s; exact Nat.le_refl _
  | succ f ih => intro p s; exact Nat.le_trans (mdP_m p 41 0 s).1 (ih (p + 1) _)
theorem bx_P {x : DB} {p j : Nat} {k : Lk} (hg : gP x.1) (gx : gX x.1) (hp : p < 12) (hk : (lkPg p 0 (x.1 p))[j]? = some k) : (bx x k).2.1 < 12 ∧ gAO (bx x k).2.2.2 := by
  obtain ⟨b1, b2⟩ := ofA_I (P := x.1) (X := XF x.1) (x := (k.1, k.2.1)) (lkPg_g hp (x.1 p) 0 (hg p hp).1 k (List.mem_of_getElem? hk)).1 (enD (k.1, k.2.1) x.2.2) 12 (Nat.le_refl _)
  exact ⟨b1, hdAn_g hg b1 (gx _ b1).1 b2⟩
theorem mdK_P {p j : Nat} {k : Lk} {s : MSt} (hg : gP s.2.2.2.1) (hp : p < 12) (hk : (lkPg p 0 (s.2.2.2.1 p))[j]? = some k) (ip : InP s.2.2.1 s.2.2.2) : InP (mdK p k s).2.2.1 (mdK p k s).2.2.2 := by
  obtain ⟨b1, b2⟩ := bx_P hg ip.1 hp hk
  have gx : gX (wrX s.2.2.2 p k (wx s.2.2.2 p k)).1 := gX_sk (wr_sk hg hp hk b1 b2) ip.1
  unfold mdK
  split
  · split
    · exact ⟨gx, ip.2.1, nxD_u ip⟩
    · exact ⟨gx, ip.2.1, ip.2.2⟩
  · exact ip
section
variable {σ : Hp} {n L mf : Nat} {t : Nat → Nat}
def CsS (σ : Hp) (n L : Nat) (t : Nat → Nat) (s : MSt) (h : Hp) : Prop := h.1 = Bm s.2.1 L ∧ InC h s.2.1 n t s.2.2.1 s.2.2.2 ∧ InP s.2.2.1 s.2.2.2 ∧ Fi CF σ h
set_option maxRecDepth 8000 in
/-- one link, the class -/
theorem s_cstep {Q : Option AV → Hp → Prop} {d p j : Nat} {k : Lk} {s : MSt} {h : Hp} (hc : CsS σ n L t s h) (hp : p < 12) (hk : (lkPg p 0 (s.2.2.2.1 p))[j]? = some k) (hm : (mdK p k s).2.1 ≤ mf) (hcb : s.1 < 1000) (K : ∀ h', CsS σ n L t (mdK p k s) h' → Sat true (d + 8) 89 (Bm mf L) Q 12 [some (vr 1 0), some (vi (nI (mdK p k s).1)), some (vi (nI p)), some (vi (nI (j + 1))), none] [] h') : Sat true (d + 8) 89 (Bm mf L) Q 28 [some (vr 1 0), some (vi (nI s.1)), some (vi (nI p)), some (vi (nI j)), none] [] h := by
  obtain ⟨hB, c, ip, fi⟩ := hc
  have hg := gP_of c.2.1
  have jl := (lkB_n hg hp hk).2
  have leM : leB h.1 (Bm mf L) := by rw [hB]; exact Bm_le L (Nat.le_trans (mdK_m p k s).1 hm)
  have ib := e_isBroken (d + 4) c.2.1 hg hp hk
  -- nothing is written
  have no : ∀ h', h'.1 = h.1 → InC h' s.2.1 n t s.2.2.1 s.2.2.2 → Fi CF h h' → mdK p k s = s → ∀ x4 : Option AV, Sat true (d + 8) 89 (Bm mf L) Q 12 [some (vr 1 0), some (vi (nI s.1)), some (vi (nI p)), some (vi (nI (j + 1))), x4] [] h' := fun h' e1 c1 f1 e2 x4 => by
    rw [e2] at K
    exact Sat_no 4 (K h' ⟨e1.trans hB, c1, ip, fi.tr f1⟩)
  refine wp_ok (cut := [12, 80]) ma_89 rfl 27 _ _ _ _ ?_
  show CalI true (d + 7) 100 [vr 1 0, vi (nI p), vi (nI j)] h (Bm mf L) (fun x2 s1 => ((x2 = 0 → Sat true (d + 8) 89 (Bm mf L) Q 12 [some (vr 1 0), some (vi (nI s.1)), some (vi (nI p)), some (vi ((nI j) + nI 1)), none] [] s1) ∧ (¬ x2 = 0 → (vp_in (nI p) 12 ∧ CalV true (d + 7) 16 [vr 229 0, vr 21 ((nI p).toNatClampNeg), vi (nI j)] s1 (Bm mf L) (fun s3 => ((¬ (nI s.1) = 0 → Sat true (d + 8) 89 (Bm mf L) Q 80 [some (vr 1 0), some (vi (nI s.1)), some (vi (nI p)), some (vi (nI j)), none] [vi (nI 0), vl (hL s3 229 0 4), vi (hI s3 229 0 2), vi (nI j), vi (nI p), vr 1 0] s3) ∧ ((nI s.1) = 0 → Sat true (d + 8) 89 (Bm mf L) Q 80 [some (vr 1 0), some (vi (nI s.1)), some (vi (nI p)), some (vi (nI j)), none] [vi (nI 1), vl (hL s3 229 0 4), vi (hI s3 229 0 2), vi (nI j), vi (nI p), vr 1 0] s3)))))))
  rw [ix (by omega), addN]
  refine dp_i ib leM (fun h1 q1 e1 => brI (fun g => ?_) (fun g => ⟨inb (by omega) (by omega), ?_⟩))
  · have e : mdK p k s = s := if_neg (fun w => by rw [w.1] at g; cases g)
    exact no h1 e1 (InC_q (RF_QF q1.2) c) (QF_CF (RF_QF q1.2)) e none
  · have c1 := InC_q (RF_QF q1.2) c
    have l1 : leB h1.1 (Bm mf L) := by rw [e1]; exact leM
    refine dp_v (e_find (d + 3) c1.2.1 hg ip.1 hp hk) l1 (fun h2 q2 e2 => ?_)
    obtain ⟨⟨b1, b2, b3, b4, b5, b6, b7⟩, f2⟩ := q2
    have b2 : hI h2 229 0 2 = nI (bx s.2.2.2 k).2.1 := b2
    have b4 : hL h2 229 0 4 = lN (anO (bx s.2.2.2 k).2.2.2) := b4
    have b6 : (bx s.2.2.2 k).2.1 < 12 := b6
    have b7 : gAO (bx s.2.2.2 k).2.2.2 := b7
    have c2 := InC_q f2 c1
    have e3 : h2.1 = h.1 := e2.trans e1
    have l2 : leB h2.1 (Bm mf L) := by rw [e3]; exact leM
    have fi2 : Fi CF h h2 := (QF_CF (RF_QF q1.2)).tr (QF_CF f2)
    rw [b2, b4]
    -- the call of writePlace
    have s80 : ∀ b : Int32, (s.1 = 0 → b = nI 1) → (s.1 ≠ 0 → b = nI 0) → Sat true (d + 8) 89 (Bm mf L) Q 80 [some (vr 1 0), some (vi (nI s.1)), some (vi (nI p)), some (vi (nI j)), none] [vi b, vl (lN (anO (bx s.2.2.2 k).2.2.2)), vi (nI (bx s.2.2.2 k).2.1), vi (nI j), vi (nI p), vr 1 0] h2 := by
      intro b hb0 hb1
      by_cases hl : lenX s.2.2.2 p k (wx s.2.2.2 p k) ≤ 160
      · have fin : ∀ h3, CsS σ n L t (mdK p k s) h3 → (mdK p k s).1 = s.1 + 1 → ((nI (lenX s.2.2.2 p k (wx s.2.2.2 p k)) < 0 → Sat true (d + 8) 89 (Bm mf L) Q 12 [some (vr 1 0), some (vi (nI s.1 + nI 0)), some (vi (nI p)), some (vi (nI (j + 1))), some (vi (nI (lenX s.2.2.2 p k (wx s.2.2.2 p k))))] [] h3) ∧ (¬ nI (lenX s.2.2.2 p k (wx s.2.2.2 p k)) < 0 → Sat true (d + 8) 89 (Bm mf L) Q 12 [some (vr 1 0), some (vi (nI s.1 + nI 1)), some (vi (nI p)), some (vi (nI (j + 1))), some (vi (nI (lenX s.2.2.2 p k (wx s.2.2.2 p k))))] [] h3)) := by
          intro h3 k3 e5
          refine ⟨fun g => absurd g (nn0 _ (by omega)), fun _ => ?_⟩
          rw [addN, ← e5]
          exact Sat_no 4 (K h3 k3)
        by_cases c0 : s.1 = 0
        · have em : mdK p k s = (s.1 + 1, kpM s.2.1 s.2.2.1, nxD s.2.2.1 s.2.2.2, wrX s.2.2.2 p k (wx s.2.2.2 p k)) := by
            unfold mdK
            rw [if_pos ⟨g, hl⟩, if_pos c0]
          rw [hb0 c0]
          have leK : leB (Bm (kpM s.2.1 s.2.2.1) L) (Bm mf L) := Bm_le L (by rw [em] at hm; exact hm)
          refine wp_ok (cut := [12]) ma_89 rfl 11 _ _ _ _ ?_
          show CalI true (d + 7) 105 [vr 1 0, vi (nI p), vi (nI j), vi (nI (bx s.2.2.2 k).2.1), vl (lN (anO (bx s.2.2.2 k).2.2.2)), vi (nI 1)] h2 (Bm mf L) (fun x2 s1 => ((x2 < 0 → Sat true (d + 8) 89 (Bm mf L) Q 12 [some (vr 1 0), some (vi ((nI s.1) + (nI 0))), some (vi (nI p)), some (vi ((nI j) + nI 1)), some (vi x2)] [] s1) ∧ (¬ x2 < 0 → Sat true (d + 8) 89 (Bm mf L) Q 12 [some (vr 1 0), some (vi ((nI s.1) + (nI 1))), some (vi (nI p)), some (vi ((nI j) + nI 1)), some (vi x2)] [] s1)))
          rw [addN j 1]
          refine cr_i (e_wpY d (e3.trans hB) c2 ip.1 hp hk b6 b7 hl) leK (fun h3 q3 e5 => fin h3 ?_ (by rw [em]))
          rw [em]
          exact ⟨e5, q3.1, ⟨q3.2.1, ip.2.1, nxD_u ip⟩, (fi.tr fi2).tr q3.2.2⟩
        · have em : mdK p k s = (s.1 + 1, s.2.1, s.2.2.1, wrX s.2.2.2 p k (wx s.2.2.2 p k)) := by
            unfold mdK
            rw [if_pos ⟨g, hl⟩, if_neg c0]
          rw [hb1 c0]
          refine wp_ok (cut := [12]) ma_89 rfl 11 _ _ _ _ ?_
          show CalI true (d + 7) 105 [vr 1 0, vi (nI p), vi (nI j), vi (nI (bx s.2.2.2 k).2.1), vl (lN (anO (bx s.2.2.2 k).2.2.2)), vi (nI 0)] h2 (Bm mf L) (fun x2 s1 => ((x2 < 0 → Sat true (d + 8) 89 (Bm mf L) Q 12 [some (vr 1 0), some (vi ((nI s.1) + (nI 0))), some (vi (nI p)), some (vi ((nI j) + nI 1)), some (vi x2)] [] s1) ∧ (¬ x2 < 0 → Sat true (d + 8) 89 (Bm mf L) Q 12 [some (vr 1 0), some (vi ((nI s.1) + (nI 1))), some (vi (nI p)), some (vi ((nI j) + nI 1)), some (vi x2)] [] s1)))
          rw [addN j 1]
          refine dp_i (e_wpN d c2 ip.1 hp hk b6 b7 hl) l2 (fun h3 q3 e5 => fin h3 ?_ (by rw [em]))
          rw [em]
          exact ⟨e5.trans (e3.trans hB), q3.1, ⟨q3.2.1, ip.2.1, ip.2.2⟩, (fi.tr fi2).tr q3.2.2⟩
      · have e : mdK p k s = s := if_neg (fun w => hl w.2)
        refine wp_ok (cut := [12]) ma_89 rfl 11 _ _ _ _ ?_
        show CalI true (d + 7) 105 [vr 1 0, vi (nI p), vi (nI j), vi (nI (bx s.2.2.2 k).2.1), vl (lN (anO (bx s.2.2.2 k).2.2.2)), vi b] h2 (Bm mf L) (fun x2 s1 => ((x2 < 0 → Sat true (d + 8) 89 (Bm mf L) Q 12 [some (vr 1 0), some (vi ((nI s.1) + (nI 0))), some (vi (nI p)), some (vi ((nI j) + nI 1)), some (vi x2)] [] s1) ∧ (¬ x2 < 0 → Sat true (d + 8) 89 (Bm mf L) Q 12 [some (vr 1 0), some (vi ((nI s.1) + (nI 1))), some (vi (nI p)), some (vi ((nI j) + nI 1)), some (vi x2)] [] s1)))
        rw [addN j 1]
        refine dp_i (e_wpT (d + 4) c2 hp hk b6 b7 (by show 160 < lenX s.2.2.2 p k (wx s.2.2.2 p k); omega)) l2 (fun h3 q3 e5 => ⟨fun _ => ?_, fun g => absurd (by decide) g⟩)
        rw [addN, Nat.add_zero]
        exact no h3 (e5.trans e3) q3.1 (fi2.tr q3.2) e _
    refine ⟨fun g2 => s80 (nI 0) (fun w => absurd (by rw [w]; rfl) g2) (fun _ => rfl), fun g2 => s80 (nI 1) (fun _ => rfl) (fun w => ?_)⟩
    have g2 : nI s.1 = nI 0 := g2
    exact absurd ((eqN (by omega) (by omega)).mp g2) w
theorem e_mendAll (d : Nat) {m : Nat} {D : List DB} {x : DB} (hB : σ.1 = Bm m L) (c : InC σ m n t D x) (ip : InP D x) : RI (d + 8) 89 [vr 1 0] σ (Bm (mdA 12 0 (0, m, D, x)).2.1 L) (nI (mdA 12 0 (0, m, D, x)).1) (fun h => InC h (mdA 12 0 (0, m, D, x)).2.1 n t (mdA 12 0 (0, m, D, x)).2.2.1 (mdA 12 0 (0, m, D, x)).2.2.2 ∧ InP (mdA 12 0 (0, m, D, x)).2.2.1 (mdA 12 0 (0, m, D, x)).2.2.2 ∧ Fi CF σ h) := by
  obtain ⟨E, eE⟩ : ∃ E, E = mdA 12 0 (0, m, D, x) := ⟨_, rfl⟩
  rw [← eE]
  have mm := mdA_m 12 0 (0, m, D, x)
  rw [← eE] at mm
  have mm : m ≤ E.2.1 := mm
  refine RI_of mt_89 (Nat.le_of_ble_eq_true rfl) (by rw [hB]; exact Bm_le L mm) fun Q hq => ?_
  have inner : ∀ (p : Nat), p < 12 → ∀ (f j : Nat) (s : MSt) (h : Hp), j + f = 41 → CsS σ n L t s h → s.1 ≤ 41 * p + j → (mdP p f j s).2.1 ≤ E.2.1 → (∀ h', CsS σ n L t (mdP p f j s) h' → ∀ x3 : Option AV, Sat true (d + 8) 89 (Bm E.2.1 L) Q 104 [some (vr 1 0), some (vi (nI (mdP p f j s).1)), some (vi (nI p)), x3, none] [] h') → Sat true (d + 8) 89 (Bm E.2.1 L) Q 12 [some (vr 1 0), some (vi (nI s.1)), some (vi (nI p)), some (vi (nI j)), none] [] h := by
    intro p hp f
    induction f with
    | zero =>
      intro j s h hj hc hb hm K
      have hg := gP_of hc.2.1.2.1
      have b2 := lkPg_b p (ls := s.2.2.2.1 p) 0 (hg p hp).1
      have b3 := (hg p hp).2
      have e8 : hI h 21 p 8 = nI (lkPg p 0 (s.2.2.2.1 p)).length := by rw [(hc.2.1.2.1.2.1 p hp).2.1, lk_len]
      refine wp_ok (cut := [12, 28, 104]) ma_89 rfl 8 _ _ _ _ ?_
      show (vp_in (nI p) 12 ∧ ((nI p).toNatClampNeg < 12 ∧ (((hI h 21 ((nI p).toNatClampNeg) 8) ≤ (nI j) → Sat true (d + 8) 89 (Bm E.2.1 L) Q 104 [some (vr 1 0), some (vi (nI s.1)), some (vi (nI p)), some (vi (nI j)), none] [] h) ∧ (¬ (hI h 21 ((nI p).toNatClampNeg) 8) ≤ (nI j) → Sat true (d + 8) 89 (Bm E.2.1 L) Q 28 [some (vr 1 0), some (vi (nI s.1)), some (vi (nI p)), some (vi (nI j)), none] [] h))))
      rw [ix (by omega), e8]
      exact ⟨inb (by omega) (by omega), hp, br_le (by omega) (by omega) (fun _ => K h hc _) (fun g => by omega)⟩
    | succ f ih =>
      intro j s h hj hc hb hm K
      have hg := gP_of hc.2.1.2.1
      have b2 := lkPg_b p (ls := s.2.2.2.1 p) 0 (hg p hp).1
      have b3 := (hg p hp).2
      have e8 : hI h 21 p 8 = nI (lkPg p 0 (s.2.2.2.1 p)).length := by rw [(hc.2.1.2.1.2.1 p hp).2.1, lk_len]
      unfold mdP at K hm
      by_cases hl : j < (lkPg p 0 (s.2.2.2.1 p)).length
      · rw [if_pos hl] at K hm
        have hk : (lkPg p 0 (s.2.2.2.1 p))[j]? = some (lkPg p 0 (s.2.2.2.1 p))[j] := List.getElem?_eq_getElem hl
        have eS : mdS p j s = mdK p (lkPg p 0 (s.2.2.2.1 p))[j] s := by
          unfold mdS
          rw [hk]
        rw [eS] at K hm
        have mk := mdK_m p (lkPg p 0 (s.2.2.2.1 p))[j] s
        refine wp_ok (cut := [12, 28, 104]) ma_89 rfl 8 _ _ _ _ ?_
        show (vp_in (nI p) 12 ∧ ((nI p).toNatClampNeg < 12 ∧ (((hI h 21 ((nI p).toNatClampNeg) 8) ≤ (nI j) → Sat true (d + 8) 89 (Bm E.2.1 L) Q 104 [some (vr 1 0), some (vi (nI s.1)), some (vi (nI p)), some (vi (nI j)), none] [] h) ∧ (¬ (hI h 21 ((nI p).toNatClampNeg) 8) ≤ (nI j) → Sat true (d + 8) 89 (Bm E.2.1 L) Q 28 [some (vr 1 0), some (vi (nI s.1)), some (vi (nI p)), some (vi (nI j)), none] [] h))))
        rw [ix (by omega), e8]
        exact ⟨inb (by omega) (by omega), hp, br_le (by omega) (by omega) (fun g => by omega) (fun _ => s_cstep hc hp hk (Nat.le_trans (mdP_m p f (j + 1) _).1 hm) (by omega) (fun h' k' => ih (j + 1) _ h' (by omega) k' (by omega) hm K))⟩
      · rw [if_neg hl] at K hm
        refine wp_ok (cut := [12, 28, 104]) ma_89 rfl 8 _ _ _ _ ?_
        show (vp_in (nI p) 12 ∧ ((nI p).toNatClampNeg < 12 ∧ (((hI h 21 ((nI p).toNatClampNeg) 8) ≤ (nI j) → Sat true (d + 8) 89 (Bm E.2.1 L) Q 104 [some (vr 1 0), some (vi (nI s.1)), some (vi (nI p)), some (vi (nI j)), none] [] h) ∧ (¬ (hI h 21 ((nI p).toNatClampNeg) 8) ≤ (nI j) → Sat true (d + 8) 89 (Bm E.2.1 L) Q 28 [some (vr 1 0), some (vi (nI s.1)), some (vi (nI p)), some (vi (nI j)), none] [] h))))
        rw [ix (by omega), e8]
        exact ⟨inb (by omega) (by omega), hp, br_le (by omega) (by omega) (fun _ => K h hc _) (fun g => absurd g hl)⟩
  have outer : ∀ (f p : Nat) (s : MSt) (h : Hp), p + f = 12 → CsS σ n L t s h → s.1 ≤ 41 * p → mdA f p s = E → ∀ x3 : Option AV, Sat true (d + 8) 89 (Bm E.2.1 L) Q 4 [some (vr 1 0), some (vi (nI s.1)), some (vi (nI p)), x3, none] [] h := by
    intro f
    induction f with
    | zero =>
      intro p s h hp hc hb he x3
      have he0 : s = E := he
      have hp : p = 12 := hp
      subst hp
      refine Sat_no 3 ?_
      show Sat true (d + 8) 89 (Bm E.2.1 L) Q 4 [some (vr 1 0), some (vi (nI s.1)), some (vi (nI 12)), none, none] [] h
      refine wp_ok (cut := [12]) ma_89 rfl 5 _ _ _ _ ?_
      show (((nI 12) ≤ (nI 12) → (Q (some (vi (nI s.1))) h ∧ h.1 = Bm E.2.1 L)) ∧ (¬ (nI 12) ≤ (nI 12) → Sat true (d + 8) 89 (Bm E.2.1 L) Q 12 [some (vr 1 0), some (vi (nI s.1)), some (vi (nI 12)), some (vi (nI 0)), none] [] h))
      rw [he0] at hc ⊢
      exact br_le (by omega) (by omega) (fun _ => ⟨hq h ⟨hc.2.1, hc.2.2.1, hc.2.2.2⟩, hc.1⟩) (fun g => by omega)
    | succ f ih =>
      intro p s h hp hc hb he x3
      have he : mdA f (p + 1) (mdP p 41 0 s) = E := he
      have b := (mdP_m p 41 0 s).2
      refine Sat_no 3 ?_
      show Sat true (d + 8) 89 (Bm E.2.1 L) Q 4 [some (vr 1 0), some (vi (nI s.1)), some (vi (nI p)), none, none] [] h
      refine wp_ok (cut := [12]) ma_89 rfl 5 _ _ _ _ ?_
      show (((nI 12) ≤ (nI p) → (Q (some (vi (nI s.1))) h ∧ h.1 = Bm E.2.1 L)) ∧ (¬ (nI 12) ≤ (nI p) → Sat true (d + 8) 89 (Bm E.2.1 L) Q 12 [some (vr 1 0), some (vi (nI s.1)), some (vi (nI p)), some (vi (nI 0)), none] [] h))
      refine br_le (by omega) (by omega) (fun g => by omega) (fun _ => inner p (by omega) 41 0 s h (by omega) hc (by omega) (by rw [← he]; exact mdA_m f (p + 1) _) (fun h' k' x3 => ?_))
      have nx := fun x3 => ih (p + 1) (mdP p 41 0 s) h' (by omega) k' (by omega) he x3
      refine Sat_no 3 ?_
      show Sat true (d + 8) 89 (Bm E.2.1 L) Q 104 [some (vr 1 0), some (vi (nI (mdP p 41 0 s).1)), some (vi (nI p)), none, none] [] h'
      refine wp_ok (cut := [4]) ma_89 rfl 2 _ _ _ _ ?_
      show Sat true (d + 8) 89 (Bm E.2.1 L) Q 4 [some (vr 1 0), some (vi (nI (mdP p 41 0 s).1)), some (vi ((nI p) + nI 1)), none, none] [] h'
      rw [addN]
      exact nx none
  refine wp_ok (cut := [4]) ma_89 rfl 4 _ _ _ _ ?_
  show Sat true (d + 8) 89 (Bm E.2.1 L) Q 4 [some (vr 1 0), some (vi (nI 0)), some (vi (nI 0)), none, none] [] σ
  exact outer 12 0 (0, m, D, x) σ (by omega) ⟨hB, c, ip, Fi.rfl' _ _⟩ (Nat.zero_le _) eE.symm none
end
