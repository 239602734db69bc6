/-! calls: put, wipe, fault, undo -/
theorem InC_12 {σ h : Hp} {m n : Nat} {t : Nat → Nat} {n' : Nat} {t' : Nat → Nat} {D : List DB} {x : DB} (f : Fr (fun f _ => f = 1 ∨ f = 2) σ h) (k7 : hI h 1 0 7 = hI σ 1 0 7) (pd : PdC h n' t') (k : InC σ m n t D x) : InC h m n' t' D x :=
  ⟨pd, CS_fr f (fun g i a b _ w => by omega) k.2.1, HiC_eq k7 (f.2 3 0 (by omega)).2.2 (fun j y _ w => DBC_fr f (fun g a b u => by omega) w) k.2.2⟩
theorem InM_34 {σ h : Hp} {n : Nat} {t : Nat → Nat} {n' : Nat} {t' : Nat → Nat} {D : List DB} {x : DB} (f : Fr (fun f _ => f = 233 ∨ f = 234 ∨ f = 237 ∨ f = 238) σ h) (k4 : hI h 233 0 4 = hI σ 233 0 4) (k5 : hI h 233 0 5 = hI σ 233 0 5) (pd : PadM h n' t') (k : InM σ n t D x) : InM h n' t' D x :=
  ⟨pd, MS_eq k5 (f.2 235 0 (by omega)).1 (fun g hg => (f.2 g 0 (by omega)).1) k.2.1, HiM_cong k4 (f.2 236 0 (by omega)).1 k.2.2⟩
theorem op_put {N : Nat} (hN : N < 2 ^ 64) : OpOK 69 113 [vl (lN N)] := by
  intro L m n t D x hp
  by_cases c : putK n N
  · refine ⟨putV n N, m, n + pkM N, putS t n N, D, x, okM m, fun σ hB k => RI_PI hB (PI_mo (e_put 34 k.1 hN) fun h q => ?_), fun σ k _ => PI_mo (m_put 34 k.1 hN) fun h q => ?_⟩
    · obtain ⟨q1, q2, q3⟩ := q
      have pd : PdC h (n + pkM N) (putS t n N) := q1.elim (fun w => w.2) (fun w => absurd c w.1)
      exact ⟨InC_12 q2 (q3 7 (by omega)) pd k, hp, Fr_CF q2 fun g i w => by omega⟩
    · obtain ⟨q1, q2, q3⟩ := q
      have pd : PadM h (n + pkM N) (putS t n N) := q1.elim (fun w => w.2) (fun w => absurd c w.1)
      exact ⟨InM_34 (q2.mo fun f p w => by omega) (q3 4 (by omega)) (q3 5 (by omega)) pd k, q2.mo fun f p w => by unfold MF; omega⟩
  · refine ⟨putV n N, m, n, t, D, x, okM m, fun σ hB k => RI_PI hB (PI_mo (e_put 34 k.1 hN) fun h q => ?_), fun σ k _ => PI_mo (m_put 34 k.1 hN) fun h q => ?_⟩
    · obtain ⟨q1, q2, q3⟩ := q
      have pd : PdC h n t := q1.elim (fun w => absurd w.1 c) (fun w => w.2)
      exact ⟨InC_12 q2 (q3 7 (by omega)) pd k, hp, Fr_CF q2 fun g i w => by omega⟩
    · obtain ⟨q1, q2, q3⟩ := q
      have pd : PadM h n t := q1.elim (fun w => absurd w.1 c) (fun w => w.2)
      exact ⟨InM_34 (q2.mo fun f p w => by omega) (q3 4 (by omega)) (q3 5 (by omega)) pd k, q2.mo fun f p w => by unfold MF; omega⟩
theorem pd_0 {h : Hp} (t : Nat → Nat) (e : hI h 1 0 1 = nI 0) : PdC h 0 t := ⟨⟨by omega, fun i hi => absurd hi (Nat.not_lt_zero _)⟩, e⟩
theorem pm_0 {h : Hp} (t : Nat → Nat) (e : hI h 233 0 1 = nI 0) : PadM h 0 t := ⟨by omega, e, fun i hi => absurd hi (Nat.not_lt_zero _)⟩
theorem op_wipe : OpOK 70 114 [] := by
  intro L m n t D x hp
  refine ⟨nI n, m, 0, t, D, x, okM m, fun σ hB k => RI_PI hB (PI_EI (e_wipe 35 k.1) ?_), fun σ k _ => PI_EI (m_wipe 35 k.1) ?_⟩
  · have f : Fr (fun f _ => f = 1 ∨ f = 2) σ (setI σ 1 0 1 (nI 0)) := (Fr.rfl' _ _).sI (f := 1) (Or.inl rfl) _ _
    exact ⟨InC_12 f (hI_k _ _ _ _ (by omega)) (pd_0 t (hI_s _ _ _ _ _)) k, hp, Fr_CF f fun g i w => by omega⟩
  · have f : Fr (fun f _ => f = 233 ∨ f = 234 ∨ f = 237 ∨ f = 238) σ (setI σ 233 0 1 (nI 0)) := (Fr.rfl' _ _).sI (f := 233) (Or.inl rfl) _ _
    exact ⟨InM_34 f (hI_k _ _ _ _ (by omega)) (hI_k _ _ _ _ (by omega)) (pm_0 t (hI_s _ _ _ _ _)) k, f.mo fun f p w => by unfold MF; omega⟩
theorem InC_5 {σ h : Hp} {m n : Nat} {t : Nat → Nat} {D : List DB} {x : DB} (f : Fr (fun f _ => f = 5) σ h) (k : InC σ m n t D x) : InC h m n t D x := InC_fr f (fun g i w u => by omega) k
theorem InM_6 {σ h : Hp} {n : Nat} {t : Nat → Nat} {D : List DB} {x : DB} (f : Fr (fun f _ => f = 233 ∨ f = 237 ∨ f = 238) σ h) (k6 : ∀ k, k ≠ 6 → hI h 233 0 k = hI σ 233 0 k) (k : InM σ n t D x) : InM h n t D x := InM_34 (f.mo fun f p w => by omega) (k6 4 (by omega)) (k6 5 (by omega)) (PadM_eq (k6 1 (by omega)) (f.2 234 0 (by omega)).1 k.1) k
theorem op_fault (a : Int32) : OpOK 71 132 [vi a] := by
  intro L m n t D x hp
  refine ⟨faultV t n a, m, n, t, D, x, okM m, fun σ hB k => RI_PI hB (PI_mo (e_fault 29 k.1 a) fun h f => ⟨InC_5 f k, hp, Fr_CF f fun g i w => by omega⟩), fun σ k _ => PI_mo (m_fault 26 k.1 a) fun h q => ⟨InM_6 q.1 q.2 k, q.1.mo fun f p w => by unfold MF; omega⟩⟩
theorem MS_of {h : Hp} {x : DB} (db : DBM h x) (gx : gX x.1) (h5 : hI h 233 0 5 = nI 0) : MS h x.1 (XF x.1) x.2.1 x.2.2 := ⟨fun q hq => ⟨(db.1 q hq).1, (db.1 q hq).2.1⟩, gx, db.1, ⟨false, h5, fun w => by cases w⟩, db.2.1, db.2.2⟩
theorem DBM_of {h : Hp} {x : DB} {X : Nat → XA} (ms : MS h x.1 X x.2.1 x.2.2) : DBM h x := ⟨ms.2.2.1, ms.2.2.2.2.1, ms.2.2.2.2.2⟩
theorem DBC_of {h : Hp} {x : DB} {X : Nat → XA} (cs : CS h x.1 X x.2.1 x.2.2) : DBC h 0 x := ⟨cs.1, cs.2.2.2.1, cs.2.2.2.2⟩
theorem e_undoN (d : Nat) {σ : Hp} (h7 : hI σ 1 0 7 = nI 0) : EI (d + 1) 91 [vr 1 0] σ (-5) σ := by
  refine EI_of mt_91 (Nat.le_of_ble_eq_true rfl) fun Q hq => ?_
  refine wp_ok (cut := [21]) ma_91 rfl 10 _ _ _ _ ?_
  show ((0 < (hI σ 1 0 7) → (vp_in ((hI σ 1 0 7) - (nI 1)) 10 ∧ Sat true (d + 1) 91 σ.1 Q 21 [some (vr 1 0), none] [Sum.inr (Sum.inr (hR σ 3 0 (((hI σ 1 0 7) - (nI 1)).toNatClampNeg)))] σ)) ∧ (¬ 0 < (hI σ 1 0 7) → (Q (some (vi (-5))) σ ∧ σ.1 = σ.1)))
  rw [h7]
  exact ⟨fun g => absurd g (by decide), fun _ => ⟨hq, rfl⟩⟩
theorem e_undoY (d : Nat) {σ : Hp} {m n L : Nat} {t : Nat → Nat} {D : List DB} {y x : DB} (hB : σ.1 = Bm m L) (k : InC σ m n t (D ++ [y]) x) : PI (d + 19) 91 [vr 1 0] σ (nI D.length) (fun h => InC h m n t D y ∧ gX y.1 ∧ Fi CF σ h) := by
  refine PI_of mt_91 (Nat.le_of_ble_eq_true rfl) fun Q hq => ?_
  obtain ⟨k1, k2, z1, z2, z3, q, q1, q2, q3, q4⟩ := k
  rw [List.length_append] at z1 z2
  have z1 : hI σ 1 0 7 = nI (D.length + 1) := z1
  have z2 : D.length + 1 ≤ m := z2
  obtain ⟨r1, r2⟩ := q1 D.length (by omega)
  have dy : DBC σ (q D.length + 1) y := q4 D.length y (by rw [List.getElem?_append_right (Nat.le_refl _), Nat.sub_self]; rfl)
  obtain ⟨a, ea⟩ : ∃ a, a = q D.length := ⟨_, rfl⟩
  rw [← ea] at r1 r2 dy
  have c1 : σ.1.1 = 266 + 10 * m := congrArg Prod.fst hB
  refine wp_ok (cut := [21]) ma_91 rfl 10 _ _ _ _ ?_
  show ((0 < (hI σ 1 0 7) → (vp_in ((hI σ 1 0 7) - (nI 1)) 10 ∧ Sat true (d + 19) 91 σ.1 Q 21 [some (vr 1 0), none] [Sum.inr (Sum.inr (hR σ 3 0 (((hI σ 1 0 7) - (nI 1)).toNatClampNeg)))] σ)) ∧ (¬ 0 < (hI σ 1 0 7) → (Q (some (vi (-5))) σ ∧ σ.1 = σ.1)))
  rw [z1, subN (a := D.length + 1) (b := 1) (by omega), Nat.add_sub_cancel, ix (by omega), r1]
  refine ⟨fun _ => ⟨inb (by omega) (by omega), ?_⟩, fun g => absurd ((ltN (a := 0) (by omega) (by omega)).mpr (by omega)) g⟩
  refine wp_ok (cut := []) ma_91 rfl 16 _ _ _ _ ?_
  show ((∀ f1 p2, some (8, a+1) = some (f1, p2) → CalV true (d + 18) 50 [vr 7 0, vr 8 (a+1)] (setI σ 1 0 7 ((hI σ 1 0 7) - (nI 1))) σ.1 (fun s3 => (Q (some (vi (hI s3 1 0 7))) s3 ∧ s3.1 = σ.1))) ∧ (some (8, a+1) = none → (Q (some (vi (-5))) σ ∧ σ.1 = σ.1)))
  refine ⟨fun f p e => ?_, fun e => by cases e⟩
  rw [z1, subN (a := D.length + 1) (b := 1) (by omega), Nat.add_sub_cancel]
  have f1 : Fr (fun f _ => f = 1) σ (setI σ 1 0 7 (nI D.length)) := (Fr.rfl' (fun f _ => f = 1) σ).sI (f := 1) rfl _ _
  refine cp_v (e_restore d (j := a) (σ := setI σ 1 0 7 (nI D.length)) (by show _ < σ.1.1; omega) (DBC_fr f1 (fun g a b w => by omega) dy) (fun p hp => by rw [hI_f _ _ _ (by omega)]; exact (k2.2.1 p hp).1.1)) rfl (fun h2 k3 e2 => ?_)
  obtain ⟨g1, g2, g3⟩ := k3
  have f3 : ∀ f p, ¬ SRe f p → f ≠ 1 → hI h2 f p = hI σ f p ∧ hL h2 f p = hL σ f p := fun f p w1 w2 => ⟨((g3.2 f p w1).1).trans (hI_f _ _ _ (by omega)), (g3.2 f p w1).2.1⟩
  have e1 : ∀ i, i ≠ 7 → hI h2 1 0 i = hI σ 1 0 i := fun i hi => by rw [(g3.2 1 0 (fun w => by unfold SRe at w; omega)).1, hI_k _ _ _ _ hi]
  have e7 : hI h2 1 0 7 = nI D.length := by rw [(g3.2 1 0 (fun w => by unfold SRe at w; omega)).1, hI_s]
  have e3 : hR h2 3 0 = hR σ 3 0 := (g3.2 3 0 (fun w => by unfold SRe at w; omega)).2.2
  rw [e7]
  refine ⟨hq h2 ⟨⟨PdC_eq (e1 1 (by omega)) (f3 2 0 (fun w => by unfold SRe at w; omega) (by omega)).1 k1, g1, e7, by omega, z3, q, fun i hi => by rw [e3]; exact q1 i hi, fun i h1 h2 => by rw [e3]; exact q2 i h1 h2, q3, fun i w hw => ?_⟩, g2, fun f p w => f3 f p (fun u => w (by unfold SRe at u; unfold CF; omega)) (fun u => w (by unfold CF; omega))⟩, e2⟩
  have hi := All_lt hw
  have := q4 i w (by rw [List.getElem?_append_left hi]; exact hw)
  exact DBC_fr g3 (fun g a b u => by unfold SRe at u; omega) (DBC_fr f1 (fun g a b u => by omega) this)
theorem op_undo : OpOK 91 134 [] := by
  intro L m n t D x hp
  rcases nil_or_sn D with e | ⟨D0, y, e⟩
  · subst e
    exact ⟨(-5), m, n, t, [], x, okM m, fun σ hB k => RI_PI hB (PI_EI (e_undoN 34 k.2.2.1) ⟨k, hp, Fi.rfl' _ _⟩), fun σ k _ => PI_EI (m_undoN 35 k.2.2) ⟨k, Fr.rfl' _ _⟩⟩
  · subst e
    have hu : DuP D0 := ⟨by have := hp.2.2.1; rw [List.length_append] at this; omega, fun z hz => hp.2.2.2 z (List.mem_append.mpr (Or.inl hz))⟩
    have hy : EnU y.2.2 := hp.2.2.2 y (List.mem_append.mpr (Or.inr List.mem_cons_self))
    refine ⟨nI D0.length, m, n, t, D0, y, okM m, fun σ hB k => RI_PI hB (PI_mo (e_undoY 16 hB k) fun h q => ⟨q.1, ⟨q.2.1, hy, hu⟩, q.2.2⟩), fun σ k hp' => PI_mo (m_undoY 35 k.2.2) fun h q => ⟨⟨PadM_eq ?_ ?_ k.1, MS_of q.2.1 hp'.1 q.2.2.1, q.1⟩, fm_fr q.2.2.2 fun g i w => by unfold SUn at w; omega⟩⟩
    · exact q.2.2.2.2.2.2 233 0 1 (fun w => by have := w.2; unfold SUn at this; omega)
    · exact q.2.2.2.fam (fun i w => by unfold SUn at w; omega) 0
