/-! the model: layRepair from its entry -/
section
variable {σ : Hp} {P : Nat → List Line} {X : Nat → XA} {rs : List (Pl × Pl)} {es : List En}
set_option maxRecDepth 6000 in
theorem s_rpPages {Q : Option AV → Hp → Prop} {d p l : Nat} (ms : MS σ P X rs es) (ld : LdX σ P X) {x : Pl} {t : Nat} (gx : gPl x) (ht : t + 12 ≤ 20448) (hr : RowA (hI σ 245 0) t (txO x.2)) (hng : rtGood P X x = false) {dg : Option Nat} (hdg : ∀ g, dg = some g → g < 1000003) (hdn : x.2 = none → dg = none) (hq : ∀ h, MnM h (ofA P X x dg 12) → FrM SRp σ h → Q none h) : ∀ (n q : Nat) (h : Hp) (x8 x9 x10 x11 : Option AV), q + n = 12 → MnM h (ofA P X x dg q) → FrM SRp σ h → Sat true (d + 6) 192 σ.1 Q 68 (rpL p l x.1 t (decide (x.2 ≠ none)) (dg6 dg) q x8 x9 x10 x11) [] h := by
  intro n
  induction n with
  | zero =>
    intro q h x8 x9 x10 x11 hq2 mb f
    have hq2 : q = 12 := hq2
    subst hq2
    refine Sat_no 8 (Sat_no 9 (Sat_no 10 (Sat_no 11 ?_)))
    show Sat true (d + 6) 192 σ.1 Q 68 (rpL p l x.1 t (decide (x.2 ≠ none)) (dg6 dg) 12 none none none none) [] h
    refine wp_ok (cut := [68, 103, 139]) ma_192 rfl 15 _ _ _ _ ?_
    show (((nI 12) ≤ (nI 12) → (Q none h ∧ h.1 = σ.1)) ∧ (¬ (nI 12) ≤ (nI 12) → CalI true (d + 5) 111 [vr 233 0, vi (nI 12)] h σ.1 (fun x2 s1 => ((x2 = 0 → Sat true (d + 6) 192 σ.1 Q 68 [some (vr 233 0), some (vi (nI p)), some (vi (nI l)), some (vi (nI x.1)), some (vi (nI t)), some (vi (bI (decide (x.2 ≠ none)))), some (vi (dg6 dg)), some (vi ((nI 12) + nI 1)), none, none, none, none] [] s1) ∧ (¬ x2 = 0 → (((nI 12) ≤ (nI x.1) → Sat true (d + 6) 192 σ.1 Q 103 [some (vr 233 0), some (vi (nI p)), some (vi (nI l)), some (vi (nI x.1)), some (vi (nI t)), some (vi (bI (decide (x.2 ≠ none)))), some (vi (dg6 dg)), some (vi (nI 12)), some (vi ((nI x.1) - (nI 12))), none, none, none] [] s1) ∧ (¬ (nI 12) ≤ (nI x.1) → Sat true (d + 6) 192 σ.1 Q 103 [some (vr 233 0), some (vi (nI p)), some (vi (nI l)), some (vi (nI x.1)), some (vi (nI t)), some (vi (bI (decide (x.2 ≠ none)))), some (vi (dg6 dg)), some (vi (nI 12)), some (vi ((nI 12) - (nI x.1))), none, none, none] [] s1)))))))
    exact ⟨fun _ => ⟨hq h mb f, f.1⟩, fun g => absurd (Int32.le_refl _) g⟩
  | succ n ih =>
    intro q h x8 x9 x10 x11 hq2 mb f
    have hq12 : q < 12 := by omega
    have x12 := gx.1
    refine Sat_no 8 (Sat_no 9 (Sat_no 10 (Sat_no 11 ?_)))
    have nx : ∀ h' x8 x9 x10 x11, MnM h' (ofP P X x dg q (ofA P X x dg q)) → FrM SRp σ h' → Sat true (d + 6) 192 σ.1 Q 68 (rpL p l x.1 t (decide (x.2 ≠ none)) (dg6 dg) (q + 1) x8 x9 x10 x11) [] h' := fun h' x8 x9 x10 x11 m1 m2 => ih (q + 1) h' x8 x9 x10 x11 (by omega) m1 m2
    have hh := m_has (d + 4) hq12 (SrcM_fm f (fun k => by unfold SRp; omega) (ms.2.2.1 q hq12))
    unfold ofP at nx
    -- with the distance
    have s103 : P q ≠ [] → ∀ far : Nat, far = q - x.1 + (x.1 - q) → Sat true (d + 6) 192 σ.1 Q 103 (rpL p l x.1 t (decide (x.2 ≠ none)) (dg6 dg) q (some (vi (nI far))) none none none) [] h := by
      intro hne far hfar
      rw [if_neg hne] at nx
      refine wp_ok (cut := [68, 139]) ma_192 rfl 13 _ _ _ _ ?_
      show (((bI (decide (x.2 ≠ none))) = 0 → CalV true (d + 5) 191 [vr 233 0, vi ((nI 4) + (nI far)), vi (nI q), vi (-6)] h σ.1 (fun s1 => Sat true (d + 6) 192 σ.1 Q 139 [some (vr 233 0), some (vi (nI p)), some (vi (nI l)), some (vi (nI x.1)), some (vi (nI t)), some (vi (bI (decide (x.2 ≠ none)))), some (vi (dg6 dg)), some (vi (nI q)), some (vi (nI far)), some (vi (nI 0)), none, none] [] s1)) ∧ (¬ (bI (decide (x.2 ≠ none))) = 0 → ((¬ (nI q) = (nI x.1) → CalV true (d + 5) 191 [vr 233 0, vi (nI 10), vi (nI q), vi (-6)] h σ.1 (fun s2 => Sat true (d + 6) 192 σ.1 Q 139 [some (vr 233 0), some (vi (nI p)), some (vi (nI l)), some (vi (nI x.1)), some (vi (nI t)), some (vi (bI (decide (x.2 ≠ none)))), some (vi (dg6 dg)), some (vi (nI q)), some (vi (nI far)), some (vi (nI 0)), none, none] [] s2)) ∧ ((nI q) = (nI x.1) → CalV true (d + 5) 191 [vr 233 0, vi (nI 6), vi (nI q), vi (-6)] h σ.1 (fun s3 => Sat true (d + 6) 192 σ.1 Q 139 [some (vr 233 0), some (vi (nI p)), some (vi (nI l)), some (vi (nI x.1)), some (vi (nI t)), some (vi (bI (decide (x.2 ≠ none)))), some (vi (dg6 dg)), some (vi (nI q)), some (vi (nI far)), some (vi (nI 0)), none, none] [] s3)))))
      obtain ⟨x1, x2⟩ := x
      cases x2 with
      | none =>
        rw [addN, hfar]
        refine ⟨fun _ => ?_, fun g => absurd rfl g⟩
        refine cp_v (m_offer (d + 5) none mb (by have : x1 < 12 := x12; show 4 + (q - x1 + (x1 - q)) < 1000; omega)) f.1 (fun h2 q2 e2 => ?_)
        have f2 : FrM SRp σ h2 := f.tr (q2.2.mo fun f k w => Or.inr w)
        have e241 : hI h2 241 0 q = nI (X q).2.2.1.length := by rw [f2.2.2.2 241 0 q (fun w => by have w := w.2; unfold SRp at w; omega), (ld.2 q hq12).1.1]
        have h100 := (ms.2.1 q hq12).2
        have k1 := nx h2 (some (vi (nI (q - x1 + (x1 - q))))) (some (vi (nI 0))) none none q2.1 f2
        have k1 : Sat true (d + 6) 192 σ.1 Q 68 (rpL p l x1 t false (dg6 dg) (q + 1) (some (vi (nI (q - x1 + (x1 - q))))) (some (vi (nI 0))) none none) [] h2 := k1
        show Sat true (d + 6) 192 σ.1 Q 139 (rpL p l x1 t false (dg6 dg) q (some (vi (nI (q - x1 + (x1 - q))))) (some (vi (nI 0))) none none) [] h2
        refine wp_ok (cut := [68, 139, 185, 212]) ma_192 rfl 23 _ _ _ _ ?_
        show (vp_in (nI q) 12 ∧ (((hI h2 241 0 ((nI q).toNatClampNeg)) ≤ (nI 0) → Sat true (d + 6) 192 σ.1 Q 68 [some (vr 233 0), some (vi (nI p)), some (vi (nI l)), some (vi (nI x1)), some (vi (nI t)), some (vi (bI false)), some (vi (dg6 dg)), some (vi ((nI q) + nI 1)), some (vi (nI (q - x1 + (x1 - q)))), some (vi (nI 0)), none, none] [] h2) ∧ (¬ (hI h2 241 0 ((nI q).toNatClampNeg)) ≤ (nI 0) → (((bI false) = 0 → Sat true (d + 6) 192 σ.1 Q 68 [some (vr 233 0), some (vi (nI p)), some (vi (nI l)), some (vi (nI x1)), some (vi (nI t)), some (vi (bI false)), some (vi (dg6 dg)), some (vi ((nI q) + nI 1)), some (vi (nI (q - x1 + (x1 - q)))), some (vi (nI 0)), none, none] [] h2) ∧ (¬ (bI false) = 0 → CalI true (d + 5) 144 [vi (nI q), vi (nI 0)] h2 σ.1 (fun x2 s1 => CalI true (d + 5) 188 [vr 233 0, vi (nI t), vi x2] s1 σ.1 (fun x4 s3 => ((¬ (nI q) = (nI x1) → Sat true (d + 6) 192 σ.1 Q 185 [some (vr 233 0), some (vi (nI p)), some (vi (nI l)), some (vi (nI x1)), some (vi (nI t)), some (vi (bI false)), some (vi (dg6 dg)), some (vi (nI q)), some (vi (nI (q - x1 + (x1 - q)))), some (vi (nI 0)), some (vi (((nI 2) * x4) + (nI 4))), none] [] s3) ∧ ((nI q) = (nI x1) → Sat true (d + 6) 192 σ.1 Q 185 [some (vr 233 0), some (vi (nI p)), some (vi (nI l)), some (vi (nI x1)), some (vi (nI t)), some (vi (bI false)), some (vi (dg6 dg)), some (vi (nI q)), some (vi (nI (q - x1 + (x1 - q)))), some (vi (nI 0)), some (vi (((nI 2) * x4) + (nI 0))), none] [] s3)))))))))
        rw [ix (by omega), e241, addN]
        exact ⟨inb hq12 (by omega), fun _ => k1, fun _ => b_f k1⟩
      | some a =>
        have ga : gAnc a := gx.2 a rfl
        have hna : q = x1 → ∀ y ∈ (X q).2.2.1, y.2.2.1 ≠ a := by
          intro e
          have hng : (decide (P x1 ≠ []) && decide (hdW a (X x1).2.2.1 0 ≠ (-6))) = false := hng
          rw [← e, decide_eq_true hne, Bool.true_and] at hng
          have h6 : hdW a (X q).2.2.1 0 = (-6) := Classical.byContradiction fun w => of_decide_eq_false hng w
          have h100 := (ms.2.1 q hq12).2
          exact hdW_none _ 0 (by omega) h6
        have both : ∀ e : Nat, e ≤ 4 → exN q x1 = e → CalV true (d + 5) 191 [vr 233 0, vi (nI (6 + e)), vi (nI q), vi (-6)] h σ.1 (fun s2 => Sat true (d + 6) 192 σ.1 Q 139 (rpL p l x1 t true (dg6 dg) q (some (vi (nI far))) (some (vi (nI 0))) none none) [] s2) := by
          intro e e4 hex
          refine cp_v (m_offer (d + 5) none mb (by omega)) f.1 (fun h2 q2 e2 => ?_)
          have f2 : FrM SRp σ h2 := f.tr (q2.2.mo fun f k w => Or.inr w)
          refine s_rpHeads ms ld x12 hq12 ht ga hr hdg hna (fun _ _ _ _ _ _ _ _ _ _ => True.intro) _ [] _ h2 _ _ _ rfl q2.1 f2 (fun h x8 x9 x10 x11 k1 k2 => ?_)
          refine nx h x8 x9 x10 x11 ?_ k2
          show MnM h (ofH (P q) a dg q (exN q x1) (X q).2.2.1 0 (ofF (ofA P X (x1, some a) dg q) (6 + exN q x1) q (-6) none))
          rw [hex] at k1 ⊢
          exact k1
        exact ⟨fun g => absurd g (show ¬ bI true = 0 by decide), fun _ => br_ne (by omega) (by have : x1 < 12 := x12; omega) (fun w => both 4 (by omega) (if_neg w)) (fun w => both 0 (by omega) (if_pos w))⟩
    show Sat true (d + 6) 192 σ.1 Q 68 (rpL p l x.1 t (decide (x.2 ≠ none)) (dg6 dg) q none none none none) [] h
    refine wp_ok (cut := [68, 103, 139]) ma_192 rfl 15 _ _ _ _ ?_
    show (((nI 12) ≤ (nI q) → (Q none h ∧ h.1 = σ.1)) ∧ (¬ (nI 12) ≤ (nI q) → CalI true (d + 5) 111 [vr 233 0, vi (nI q)] h σ.1 (fun x2 s1 => ((x2 = 0 → Sat true (d + 6) 192 σ.1 Q 68 [some (vr 233 0), some (vi (nI p)), some (vi (nI l)), some (vi (nI x.1)), some (vi (nI t)), some (vi (bI (decide (x.2 ≠ none)))), some (vi (dg6 dg)), some (vi ((nI q) + nI 1)), none, none, none, none] [] s1) ∧ (¬ x2 = 0 → (((nI q) ≤ (nI x.1) → Sat true (d + 6) 192 σ.1 Q 103 [some (vr 233 0), some (vi (nI p)), some (vi (nI l)), some (vi (nI x.1)), some (vi (nI t)), some (vi (bI (decide (x.2 ≠ none)))), some (vi (dg6 dg)), some (vi (nI q)), some (vi ((nI x.1) - (nI q))), none, none, none] [] s1) ∧ (¬ (nI q) ≤ (nI x.1) → Sat true (d + 6) 192 σ.1 Q 103 [some (vr 233 0), some (vi (nI p)), some (vi (nI l)), some (vi (nI x.1)), some (vi (nI t)), some (vi (bI (decide (x.2 ≠ none)))), some (vi (dg6 dg)), some (vi (nI q)), some (vi ((nI q) - (nI x.1))), none, none, none] [] s1)))))))
    rw [addN]
    refine br_le (by omega) (by omega) (fun g => by omega) (fun _ => cal_i hh f.1 (brI (fun g => ?_) (fun g => br_le (by omega) (by omega) (fun g2 => ?_) (fun g2 => ?_))))
    · rw [if_pos (pnil g)] at nx
      exact nx h _ _ _ _ mb f
    · rw [subN g2]
      exact s103 (of_decide_eq_true g) _ (by omega)
    · rw [subN (by omega)]
      exact s103 (of_decide_eq_true g) _ (by omega)
set_option maxRecDepth 6000 in
theorem m_layRepair (d : Nat) (ms : MS σ P X rs es) {p j : Nat} {k : Lk} (hp : p < 12) (hk : (lkPg p 0 (P p))[j]? = some k) (hng : rtGood P X (k.1, k.2.1) = false) : PV (d + 6) 192 [vr 233 0, vi (nI p), vi (nI j)] σ (fun h => MS h P X rs es ∧ LdX h P X ∧ MnM h (ofA P X (k.1, k.2.1) (enD (k.1, k.2.1) es) 12) ∧ FrM (fun f k => SQ f k ∨ SRp f k) σ h) := by
  refine PV_of mt_192 (Nat.le_of_ble_eq_true rfl) fun Q hq => ?_
  have hj := All_lt hk
  have h42 := (bds ms.1 hp).2
  have gk := lkPg_g hp (P p) 0 (ms.1 p hp).1 k (List.mem_of_getElem? hk)
  have k12 := gk.1
  have hdg : ∀ g, enD (k.1, k.2.1) es = some g → g < 1000003 := by
    intro g hg
    rcases enF_d (k.1, k.2.1) es 0 with ⟨_, h⟩ | ⟨i, y, h1, _, h3⟩
    · rw [hg] at h; cases h
    · rw [hg] at h3
      cases h3
      exact (ms.2.2.2.2.2.2.2 i y h1).2.2.2.2.2
  have hdn : k.2.1 = none → enD (k.1, k.2.1) es = none := by
    intro e
    rw [e]
    have g : ∀ l : List En, enD (k.1, none) l = none := by
      intro l
      induction l with
      | nil => rfl
      | cons y r ih =>
        unfold enD
        rw [if_neg (fun w => by have := congrArg Prod.snd w; cases this)]
        exact ih
    exact g es
  have lenk : (txO k.2.1).length ≤ 11 := txO_len gk.2
  refine wp_ok (cut := [40, 68]) ma_192 rfl 23 _ _ _ _ ?_
  show CalV true (d + 5) 157 [vr 233 0] σ σ.1 (fun s1 => (vp_in (((nI 42) * (nI p)) + (nI j)) 504 ∧ CalI true (d + 5) 145 [vi (nI p), vi (nI j)] s1 σ.1 (fun x3 s2 => (vp_in x3 20448 ∧ (((hI s2 245 0 x3.toNatClampNeg) ≤ 0 → Sat true (d + 6) 192 σ.1 Q 40 [some (vr 233 0), some (vi (nI p)), some (vi (nI j)), some (vi (hI s1 256 0 ((((nI 42) * (nI p)) + (nI j)).toNatClampNeg))), some (vi x3), some (vi (nI 0)), none, none, none, none, none, none] [] s2) ∧ (¬ (hI s2 245 0 x3.toNatClampNeg) ≤ 0 → Sat true (d + 6) 192 σ.1 Q 40 [some (vr 233 0), some (vi (nI p)), some (vi (nI j)), some (vi (hI s1 256 0 ((((nI 42) * (nI p)) + (nI j)).toNatClampNeg))), some (vi x3), some (vi (nI 1)), none, none, none, none, none, none] [] s2))))))
  refine cp_v (m_lay d ms) rfl (fun h1 q1 e1 => ?_)
  obtain ⟨c1, c2, c3, c4⟩ := (q1.2.1.2 p hp).1.2.2.2.2.2.2.1 j k hk
  rw [mulN, addN, ix (by omega), c3]
  refine ⟨inb (by omega) (by omega), cal_i (m_linkAnchor (d + 5) h1 p j) e1 ?_⟩
  rw [ix (by omega), c4.1]
  have f0 : FrM SRp h1 (setI h1 233 0 39 (-6)) := (FrM.rfl' SRp h1).sI (f := 233) (Or.inr ⟨rfl, Or.inl rfl⟩) _
  have lp := s_rpPages (σ := h1) (Q := Q) (d := d) (p := p) (l := j) (x := (k.1, k.2.1)) (t := 14400 + 12 * (42 * p + j)) (dg := enD (k.1, k.2.1) es) q1.1 q1.2.1 gk (by omega) c4 hng hdg hdn (fun h m f => hq h ⟨MS_fr f (fun k => by unfold SRp; omega) (LdX_is ms.2.1 (LdX_rp ms.1 ms.2.1 f q1.2.1)) q1.1, LdX_rp ms.1 ms.2.1 f q1.2.1, m, (q1.2.2.mo fun f k w => Or.inl (Or.inl w)).tr (f.mo fun f k w => Or.inr w)⟩) 12 0 (setI h1 233 0 39 (-6)) none none none none (by omega) (Or.inl ⟨rfl, hI_s _ _ _ _ _⟩) f0
  rw [e1] at lp
  have tn : ∀ b : Bool, b = decide (k.2.1 ≠ none) → Sat true (d + 6) 192 σ.1 Q 68 (rpL p j k.1 (14400 + 12 * (42 * p + j)) b (dg6 (enD (k.1, k.2.1) es)) 0 none none none none) [] (setI h1 233 0 39 (-6)) := fun b hb => by rw [hb]; exact lp
  generalize ht : 14400 + 12 * (42 * p + j) = t at tn c4 ⊢
  refine ⟨inb (by omega) (by omega), br_le (b := 0) (by omega) (by omega) (fun g => ?_) (fun g => ?_)⟩
  · have e : k.2.1 = none := (txO_nil gk.2).mp (List.eq_nil_of_length_eq_zero (by omega))
    have t0 := tn false (decide_eq_false (fun w => w e)).symm
    rw [hdn e] at t0
    refine wp_ok (cut := [68]) ma_192 rfl 13 _ _ _ _ ?_
    show (((nI 0) = 0 → Sat true (d + 6) 192 σ.1 Q 68 [some (vr 233 0), some (vi (nI p)), some (vi (nI j)), some (vi (nI k.1)), some (vi (nI t)), some (vi (nI 0)), some (vi (-6)), some (vi (nI 0)), none, none, none, none] [] (setI h1 233 0 39 (-6))) ∧ (¬ (nI 0) = 0 → CalI true (d + 5) 189 [vr 233 0, vi (nI k.1), vi (nI t)] h1 σ.1 (fun x2 s1 => Sat true (d + 6) 192 σ.1 Q 68 [some (vr 233 0), some (vi (nI p)), some (vi (nI j)), some (vi (nI k.1)), some (vi (nI t)), some (vi (nI 0)), some (vi x2), some (vi (nI 0)), none, none, none, none] [] (setI s1 233 0 39 (-6)))))
    exact ⟨fun _ => t0, fun w => absurd rfl w⟩
  · refine wp_ok (cut := [68]) ma_192 rfl 13 _ _ _ _ ?_
    show (((nI 1) = 0 → Sat true (d + 6) 192 σ.1 Q 68 [some (vr 233 0), some (vi (nI p)), some (vi (nI j)), some (vi (nI k.1)), some (vi (nI t)), some (vi (nI 1)), some (vi (-6)), some (vi (nI 0)), none, none, none, none] [] (setI h1 233 0 39 (-6))) ∧ (¬ (nI 1) = 0 → CalI true (d + 5) 189 [vr 233 0, vi (nI k.1), vi (nI t)] h1 σ.1 (fun x2 s1 => Sat true (d + 6) 192 σ.1 Q 68 [some (vr 233 0), some (vi (nI p)), some (vi (nI j)), some (vi (nI k.1)), some (vi (nI t)), some (vi (nI 1)), some (vi x2), some (vi (nI 0)), none, none, none, none] [] (setI s1 233 0 39 (-6)))))
    refine ⟨fun w => absurd w (by decide), fun _ => ?_⟩
    cases e : k.2.1 with
    | none =>
      rw [e] at g
      exact absurd g (Nat.lt_irrefl 0)
    | some a =>
      have t1 := tn true (decide_eq_true (by rw [e]; exact fun w => by cases w)).symm
      rw [e] at t1 c4
      refine cal_i (m_remembered (d + 4) q1.1.2.2.2.2.2 k12 (by omega) (gk.2 a e) c4) e1 ?_
      exact t1
end
