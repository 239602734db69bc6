/-! calls: remove, load -/
noncomputable def esR (x : DB) (p : Nat) : List En := remE x.1 (XF x.1) p (secs (x.1 p)).length x.2.2
theorem pPg_le {t : Nat → Nat} {n : Nat} : ∀ (k a b : Nat), a ≤ n → pPg t n k a = some b → b ≤ n := by
  intro k
  induction k with
  | zero => intro a b ha h; cases h; exact ha
  | succ k ih =>
    intro a b ha h
    unfold pPg at h
    have l1 := pLine_le (t := t) ha
    cases e1 : pLine t n a with
    | mk b1 a1 =>
      rw [e1] at h l1
      have l1 : a1 ≤ n := l1
      cases b1 with
      | false => cases h; exact l1
      | true =>
        have l2 := pT_le (t := t) (x := 59) l1
        cases e2 : pT t n 59 a1 with
        | mk b2 a2 =>
          have h : (match pT t n 59 a1 with
            | (false, a2) => if a2 = n then none else some a2
            | (true, a2) => pPg t n k a2) = some b := h
          rw [e2] at h l2
          have l2 : a2 ≤ n := l2
          cases b2 with
          | false =>
            have h : (if a2 = n then none else some a2) = some b := h
            by_cases c : a2 = n
            · rw [if_pos c] at h; cases h
            · rw [if_neg c] at h; cases h; exact l2
          | true => exact ih a2 b l2 h
theorem fI_6 {o : Option Nat} {n : Nat} (hn : n ≤ 160) (h : ∀ b, o = some b → b ≤ n) : fI o = (-6) ↔ o = none := by
  cases o with
  | none => exact ⟨fun _ => rfl, fun _ => rfl⟩
  | some b =>
    have := h b rfl
    exact ⟨fun w => absurd w (n6 (by omega)), fun w => by cases w⟩
theorem pageF_6 {t : Nat → Nat} {n : Nat} (hn : n ≤ 160) : fI (pageF t n) = (-6) ↔ pageF t n = none := fI_6 hn fun b h => pPg_le (n + 1) 0 b (Nat.zero_le _) h
theorem e_removeN (d : Nat) {σ : Hp} {a : Int32} (h : rngI a 12 = false) : EI (d + 1) 73 [vr 1 0, vi a] σ (-1) σ := by
  refine EI_of mt_73 (Nat.le_of_ble_eq_true rfl) fun Q hq => ?_
  have k := e_isPage d σ a
  rw [h] at k
  refine wp_ok (cut := [9]) ma_73 rfl 5 _ _ _ _ ?_
  show CalI true d 93 [vi a] σ σ.1 (fun x2 s1 => ((¬ x2 = 0 → Sat true (d + 1) 73 σ.1 Q 9 [some (vr 1 0), some (vi a)] [] s1) ∧ (x2 = 0 → (Q (some (vi (-1))) s1 ∧ s1.1 = σ.1))))
  exact cal_i k rfl (b_f' ⟨hq, rfl⟩)
theorem e_removeE (d : Nat) {σ : Hp} {p : Nat} (hp : p < 12) (hs : SrcC σ 0 p []) : EI (d + 1) 73 [vr 1 0, vi (nI p)] σ (-5) σ := by
  refine EI_of mt_73 (Nat.le_of_ble_eq_true rfl) fun Q hq => ?_
  have k := e_isPage d σ (nI p)
  rw [rngI_n hp (by omega)] at k
  refine wp_ok (cut := [26]) ma_73 rfl 11 _ _ _ _ ?_
  show CalI true d 93 [vi (nI p)] σ σ.1 (fun x2 s1 => ((¬ x2 = 0 → CalI true d 60 [vr 8 0, vi (nI p)] s1 σ.1 (fun x4 s3 => ((¬ x4 = 0 → Sat true (d + 1) 73 σ.1 Q 26 [some (vr 1 0), some (vi (nI p))] [] s3) ∧ (x4 = 0 → (Q (some (vi (-5))) s3 ∧ s3.1 = σ.1))))) ∧ (x2 = 0 → (Q (some (vi (-1))) s1 ∧ s1.1 = σ.1))))
  exact cal_i k rfl (b_t' (cal_i (e_hasSource d hp hs) rfl (b_f' ⟨hq, rfl⟩)))
/-- what load and remove share -/
theorem InC_rem {σ h : Hp} {m n : Nat} {t : Nat → Nat} {D : List DB} {x : DB} {p : Nat} (k : InC σ m n t D x) (q : EnsC h 0 (esR x p) ∧ (∀ k, k ≠ 7 → hI h 8 0 k = hI σ 8 0 k) ∧ Fr SEn σ h) : InC h m n t D (x.1, x.2.1, esR x p) := InC_now q.2.2 (fun g i w => by unfold SEn at w; omega) (CS_en q.1 q.2.1 q.2.2 k.2.1) k
theorem e_removeY (d : Nat) {σ : Hp} {m n L p : Nat} {t : Nat → Nat} {D : List DB} {x : DB} (hB : σ.1 = Bm m L) (k : InC σ m n t D x) (ip : InP D x) (hp : p < 12) (ne : x.1 p ≠ []) : RI (d + 19) 73 [vr 1 0, vi (nI p)] σ (Bm (kpM m D) L) (srcB (updP x.1 p []) 12) (fun h => (InC h (kpM m D) n t (nxD D x) (updP x.1 p [], x.2.1, esR x p) ∧ gX (updP x.1 p [])) ∧ Fi CF σ h) := by
  have hB' : leB σ.1 (Bm (kpM m D) L) := by rw [hB]; exact Bm_le L (kpM_ge m D)
  refine RI_of mt_73 (Nat.le_of_ble_eq_true rfl) hB' fun Q hq => ?_
  have k1 := e_isPage (d + 18) σ (nI p)
  rw [rngI_n hp (by omega)] at k1
  have k2 := e_hasSource (d + 18) hp (k.2.1.1 p hp)
  rw [decide_eq_true ne] at k2
  refine wp_ok (cut := []) ma_73 rfl 27 _ _ _ _ ?_
  show CalI true (d + 18) 93 [vi (nI p)] σ (Bm (kpM m D) L) (fun x2 s1 => ((¬ x2 = 0 → CalI true (d + 18) 60 [vr 8 0, vi (nI p)] s1 (Bm (kpM m D) L) (fun x4 s3 => ((¬ x4 = 0 → CalV true (d + 18) 106 [vr 1 0] s3 (Bm (kpM m D) L) (fun s5 => CalV true (d + 18) 53 [vr 7 0, vi (nI p)] s5 (Bm (kpM m D) L) (fun s6 => CalV true (d + 18) 49 [vr 7 0, vi (nI p), vr 2 0, vi (nI 0)] s6 (Bm (kpM m D) L) (fun s7 => CalI true (d + 18) 61 [vr 8 0] s7 (Bm (kpM m D) L) (fun x9 s8 => (Q (some (vi x9)) s8 ∧ s8.1 = Bm (kpM m D) L)))))) ∧ (x4 = 0 → (Q (some (vi (-5))) s3 ∧ s3.1 = Bm (kpM m D) L))))) ∧ (x2 = 0 → (Q (some (vi (-1))) s1 ∧ s1.1 = Bm (kpM m D) L))))
  refine dl_i k1 hB' (b_t' (dl_i k2 hB' (b_t' (cr_v (e_keepState (d + 16) k.2.2 hB (DBC_of k.2.1)) (leB.rfl' _) (fun h1 q1 e1 => ?_)))))
  have c1 := InC_keep k q1
  have l1 : leB h1.1 (Bm (kpM m D) L) := by rw [e1]; exact leB.rfl' _
  refine dp_v (e_rememberSections (d + 15) c1.2.1 (gP_of c1.2.1) ip.1 ip.2.1 hp) l1 (fun h2 q2 e2 => ?_)
  have c2 := InC_rem c1 q2
  have l2 : leB h2.1 (Bm (kpM m D) L) := by rw [e2]; exact l1
  refine dp_v (e_replaceSource d c2.2.1 (ls := []) (n := 0) hp (fun l hl => by cases hl) rfl (by omega) trivial) l2 (fun h3 q3 e3 => ?_)
  have c3 : InC h3 (kpM m D) n t (nxD D x) (updP x.1 p [], x.2.1, esR x p) := InC_now q3.2.2 (fun g i w => by unfold SSo at w; omega) q3.1 c2
  have l3 : leB h3.1 (Bm (kpM m D) L) := by rw [e3]; exact l2
  refine dl_i (e_sources (d + 17) c3.2.1.1) l3 ⟨hq h3 ⟨⟨c3, q3.2.1⟩, ((SKp_CF q1.2.2.1).tr (Fr_CF q2.2.2 fun g i w => by unfold SEn at w; omega)).tr (Fr_CF q3.2.2 fun g i w => by unfold SSo at w; omega)⟩, e3.trans (e2.trans e1)⟩
theorem e_loadN (d : Nat) {σ : Hp} {a : Int32} (h : rngI a 12 = false) : EI (d + 1) 72 [vr 1 0, vi a] σ (-1) σ := by
  refine EI_of mt_72 (Nat.le_of_ble_eq_true rfl) fun Q hq => ?_
  have k := e_isPage d σ a
  rw [h] at k
  refine wp_ok (cut := [9]) ma_72 rfl 5 _ _ _ _ ?_
  show CalI true d 93 [vi a] σ σ.1 (fun x2 s1 => ((¬ x2 = 0 → Sat true (d + 1) 72 σ.1 Q 9 [some (vr 1 0), some (vi a)] [] s1) ∧ (x2 = 0 → (Q (some (vi (-1))) s1 ∧ s1.1 = σ.1))))
  exact cal_i k rfl (b_f' ⟨hq, rfl⟩)
theorem e_loadF (d : Nat) {σ : Hp} {p n : Nat} {t : Nat → Nat} (hp : p < 12) (pd : PdC σ n t) (hf : pageF t n ≠ none) : PI (d + 6) 72 [vr 1 0, vi (nI p)] σ (-3) (fun h => Fr (fun f _ => f = 5) σ h) := by
  refine PI_of mt_72 (Nat.le_of_ble_eq_true rfl) fun Q hq => ?_
  have k1 := e_isPage (d + 5) σ (nI p)
  rw [rngI_n hp (by omega)] at k1
  refine wp_ok (cut := [32]) ma_72 rfl 14 _ _ _ _ ?_
  show CalI true (d + 5) 93 [vi (nI p)] σ σ.1 (fun x2 s1 => ((¬ x2 = 0 → CalI true (d + 5) 29 [vr 5 0, vr 2 0, vi (hI s1 1 0 1)] s1 σ.1 (fun x4 s3 => ((x4 = (-6) → Sat true (d + 6) 72 σ.1 Q 32 [some (vr 1 0), some (vi (nI p))] [] s3) ∧ (¬ x4 = (-6) → (Q (some (vi (-3))) s3 ∧ s3.1 = σ.1))))) ∧ (x2 = 0 → (Q (some (vi (-1))) s1 ∧ s1.1 = σ.1))))
  refine cal_i k1 rfl (b_t' ?_)
  rw [pd.2]
  refine cp_i (e_pageFault d pd.1) rfl (fun h1 q1 e1 => ?_)
  obtain ⟨a, ea⟩ := q1
  exact ⟨fun g => absurd ((pageF_6 pd.1.1).mp g) hf, fun _ => ⟨hq h1 (by rw [ea]; exact rh_fr σ n a), e1⟩⟩
theorem e_loadY (d : Nat) {σ : Hp} {m n L p : Nat} {t : Nat → Nat} {D : List DB} {x : DB} {ls : List Line} (hB : σ.1 = Bm m L) (k : InC σ m n t D x) (ip : InP D x) (hp : p < 12) (hf : pageF t n = none) (hg : gPg ls) (htx : txPg ls = sg t 0 n) : RI (d + 19) 72 [vr 1 0, vi (nI p)] σ (Bm (kpM m D) L) (nI ls.length) (fun h => (InC h (kpM m D) 0 t (nxD D x) (updP x.1 p ls, x.2.1, esR x p) ∧ gX (updP x.1 p ls)) ∧ Fi CF σ h) := by
  have hB' : leB σ.1 (Bm (kpM m D) L) := by rw [hB]; exact Bm_le L (kpM_ge m D)
  refine RI_of mt_72 (Nat.le_of_ble_eq_true rfl) hB' fun Q hq => ?_
  have k1 := e_isPage (d + 18) σ (nI p)
  rw [rngI_n hp (by omega)] at k1
  have n160 := k.1.1.1
  have hln : (sg t 0 n).length = n := sg_len t n 0
  refine wp_ok (cut := []) ma_72 rfl 36 _ _ _ _ ?_
  show CalI true (d + 18) 93 [vi (nI p)] σ (Bm (kpM m D) L) (fun x2 s1 => ((¬ x2 = 0 → CalI true (d + 18) 29 [vr 5 0, vr 2 0, vi (hI s1 1 0 1)] s1 (Bm (kpM m D) L) (fun x4 s3 => ((x4 = (-6) → CalV true (d + 18) 106 [vr 1 0] s3 (Bm (kpM m D) L) (fun s5 => CalV true (d + 18) 53 [vr 7 0, vi (nI p)] s5 (Bm (kpM m D) L) (fun s6 => CalV true (d + 18) 49 [vr 7 0, vi (nI p), vr 2 0, vi (hI s6 1 0 1)] s6 (Bm (kpM m D) L) (fun s7 => (vp_in (nI p) 12 ∧ ((nI p).toNatClampNeg < 12 ∧ (Q (some (vi (hI s7 21 ((nI p).toNatClampNeg) 1))) (setI s7 1 0 1 (nI 0)) ∧ s7.1 = Bm (kpM m D) L))))))) ∧ (¬ x4 = (-6) → (Q (some (vi (-3))) s3 ∧ s3.1 = Bm (kpM m D) L))))) ∧ (x2 = 0 → (Q (some (vi (-1))) s1 ∧ s1.1 = Bm (kpM m D) L))))
  refine dl_i k1 hB' (b_t' ?_)
  rw [k.1.2]
  refine dp_i (e_pageFault (d + 13) k.1.1) hB' (fun h0 q0 e0 => ?_)
  obtain ⟨a, ea⟩ := q0
  have f0 : Fr (fun f _ => f = 5) σ h0 := by rw [ea]; exact rh_fr σ n a
  have c0 := InC_5 f0 k
  refine ⟨fun _ => ?_, fun g => absurd ((pageF_6 n160).mpr hf) g⟩
  refine cr_v (e_keepState (d + 16) c0.2.2 (e0.trans hB) (DBC_of c0.2.1)) (leB.rfl' _) (fun h1 q1 e1 => ?_)
  have c1 := InC_keep c0 q1
  have l1 : leB h1.1 (Bm (kpM m D) L) := by rw [e1]; exact leB.rfl' _
  refine dp_v (e_rememberSections (d + 15) c1.2.1 (gP_of c1.2.1) ip.1 ip.2.1 hp) l1 (fun h2 q2 e2 => ?_)
  have c2 := InC_rem c1 q2
  have l2 : leB h2.1 (Bm (kpM m D) L) := by rw [e2]; exact l1
  rw [c2.1.2]
  refine dp_v (e_replaceSource d c2.2.1 (ls := ls) (n := n) hp hg (by rw [htx, hln]) n160 (by rw [htx]; exact Tx_sg (fun i hi => by rw [Nat.zero_add]; exact (c2.1.1.2 i hi).1))) l2 (fun h3 q3 e3 => ?_)
  have c3 : InC h3 (kpM m D) n t (nxD D x) (updP x.1 p ls, x.2.1, esR x p) := InC_now q3.2.2 (fun g i w => by unfold SSo at w; omega) q3.1 c2
  have f4 : Fr (fun f _ => f = 1 ∨ f = 2) h3 (setI h3 1 0 1 (nI 0)) := (Fr.rfl' _ _).sI (f := 1) (Or.inl rfl) _ _
  have c4 := InC_12 f4 (hI_k _ _ _ _ (by omega)) (pd_0 t (hI_s _ _ _ _ _)) c3
  have o1 : hI h3 21 p 1 = nI ls.length := by
    have w : hI h3 21 p 1 = nI (updP x.1 p ls p).length := (c3.2.1.2.1 p hp).1.2.1
    rw [updP_s] at w
    exact w
  rw [ix (by omega), o1]
  refine ⟨inb (by omega) (by omega), hp, hq _ ⟨⟨c4, q3.2.1⟩, ((((Fr_CF f0 fun g i w => by omega).tr (SKp_CF q1.2.2.1)).tr (Fr_CF q2.2.2 fun g i w => by unfold SEn at w; omega)).tr (Fr_CF q3.2.2 fun g i w => by unfold SSo at w; omega)).tr (Fr_CF f4 fun g i w => by omega)⟩, e3.trans (e2.trans e1)⟩
/-! the model -/
theorem m_removeN (d : Nat) {σ : Hp} {a : Int32} (h : rngI a 12 = false) : EI (d + 2) 142 [vr 233 0, vi a] σ (-1) σ := by
  refine EI_of mt_142 (Nat.le_of_ble_eq_true rfl) fun Q hq => ?_
  have k := m_isPage d σ a
  rw [h] at k
  refine wp_ok (cut := [9]) ma_142 rfl 5 _ _ _ _ ?_
  show CalI true (d + 1) 109 [vi a] σ σ.1 (fun x2 s1 => ((¬ x2 = 0 → Sat true (d + 2) 142 σ.1 Q 9 [some (vr 233 0), some (vi a)] [] s1) ∧ (x2 = 0 → (Q (some (vi (-1))) s1 ∧ s1.1 = σ.1))))
  exact cal_i k rfl (b_f' ⟨hq, rfl⟩)
theorem m_removeE (d : Nat) {σ : Hp} {p : Nat} (hp : p < 12) (hs : SrcM σ p []) : EI (d + 2) 142 [vr 233 0, vi (nI p)] σ (-5) σ := by
  refine EI_of mt_142 (Nat.le_of_ble_eq_true rfl) fun Q hq => ?_
  have k := m_isPage d σ (nI p)
  rw [rngI_n hp (by omega)] at k
  refine wp_ok (cut := [20]) ma_142 rfl 9 _ _ _ _ ?_
  show CalI true (d + 1) 109 [vi (nI p)] σ σ.1 (fun x2 s1 => ((¬ x2 = 0 → CalI true (d + 1) 111 [vr 233 0, vi (nI p)] s1 σ.1 (fun x4 s3 => ((¬ x4 = 0 → Sat true (d + 2) 142 σ.1 Q 20 [some (vr 233 0), some (vi (nI p))] [] s3) ∧ (x4 = 0 → (Q (some (vi (-5))) s3 ∧ s3.1 = σ.1))))) ∧ (x2 = 0 → (Q (some (vi (-1))) s1 ∧ s1.1 = σ.1))))
  exact cal_i k rfl (b_t' (cal_i (m_has d hp hs) rfl (b_f' ⟨hq, rfl⟩)))
theorem InM_rem {σ h : Hp} {n : Nat} {t : Nat → Nat} {D : List DB} {x : DB} {p : Nat} (k : InM σ n t D x) (ms : MS h x.1 (XF x.1) x.2.1 (esR x p)) (f : FrM SRm σ h) : InM h n t D (x.1, x.2.1, esR x p) := InM_fr f (by unfold SRm SLay SMe; omega) (by unfold SRm SLay SMe; omega) (fun k w => by unfold SRm SLay SMe at w; omega) (fun k w => by unfold SRm SLay SMe at w; omega) ms k
theorem SRm_MF {σ h : Hp} (f : FrM SRm σ h) : Fr MF σ h := fm_fr f fun g i w => by unfold SRm SLay SMe at w; omega
/-- a page's text in all, the rest as it was -/
theorem DBM_pg {σ h : Hp} {x : DB} {p : Nat} {ls : List Line} (hp : p < 12) (db : DBM σ x) (e : ∀ i, i < 2830 → (i < 160 * p ∨ 160 * p + 160 ≤ i) → i ≠ 1920 + p → hI h 235 0 i = hI σ 235 0 i) (sr : SrcM h p ls) : DBM h (updP x.1 p ls, x.2.1, x.2.2) := by
  obtain ⟨k1, ⟨t1, t2, t3⟩, ⟨n1, n2, n3⟩⟩ := db
  refine ⟨fun q hq => ?_, ⟨by rw [e _ (by omega) (by omega) (by omega)]; exact t1, t2, fun j y hy => ?_⟩, ⟨by rw [e _ (by omega) (by omega) (by omega)]; exact n1, n2, fun j y hy => ?_⟩⟩
  · show SrcM h q (updP x.1 p ls q)
    by_cases c : q = p
    · rw [c, updP_s]; exact sr
    · rw [updP_o _ _ c]
      obtain ⟨s1, s2, s3, s4⟩ := k1 q hq
      exact ⟨s1, s2, by rw [e _ (by omega) (by omega) (by omega)]; exact s3, Tx_cong s4 fun k a b => e k (by omega) (by omega) (by omega)⟩
  · have hj := All_lt hy
    have t2 : x.2.1.length ≤ 12 := t2
    have hj : j < x.2.1.length := hj
    obtain ⟨r1, r2, r3⟩ := t3 j y hy
    exact ⟨RowP_cong r1 fun k a b => e k (by omega) (by omega) (by omega), RowP_cong r2 fun k a b => e k (by omega) (by omega) (by omega), r3⟩
  · have hj := All_lt hy
    have n2 : x.2.2.length ≤ 40 := n2
    have hj : j < x.2.2.length := hj
    exact EnM_mv (fun k hk => e _ (by omega) (by omega) (by omega)) (n3 j y hy)
theorem m_removeY (d : Nat) {σ : Hp} {n p : Nat} {t : Nat → Nat} {D : List DB} {x : DB} (k : InM σ n t D x) (ip : InP D x) (hp : p < 12) (ne : x.1 p ≠ []) (gx : gX (updP x.1 p [])) : PI (d + 8) 142 [vr 233 0, vi (nI p)] σ (srcB (updP x.1 p []) 12) (fun h => InM h n t (nxD D x) (updP x.1 p [], x.2.1, esR x p) ∧ Fr MF σ h) := by
  refine PI_of mt_142 (Nat.le_of_ble_eq_true rfl) fun Q hq => ?_
  have k1 := m_isPage (d + 6) σ (nI p)
  rw [rngI_n hp (by omega)] at k1
  have k2 := m_has (d + 6) hp (k.2.1.2.2.1 p hp)
  rw [decide_eq_true ne] at k2
  refine wp_ok (cut := []) ma_142 rfl 25 _ _ _ _ ?_
  show CalI true (d + 7) 109 [vi (nI p)] σ σ.1 (fun x2 s1 => ((¬ x2 = 0 → CalI true (d + 7) 111 [vr 233 0, vi (nI p)] s1 σ.1 (fun x4 s3 => ((¬ x4 = 0 → CalV true (d + 7) 133 [vr 233 0] s3 σ.1 (fun s5 => CalV true (d + 7) 136 [vr 233 0, vi (nI p)] s5 σ.1 (fun s6 => (vp_in ((nI 1920) + (nI p)) 2830 ∧ (((nI 0) = 0 ∨ (nI 0) = 1) ∧ CalI true (d + 7) 141 [vr 233 0] (setI (setI s6 235 0 (((nI 1920) + (nI p)).toNatClampNeg) (-6)) 233 0 5 (nI 0)) σ.1 (fun x8 s7 => (Q (some (vi x8)) s7 ∧ s7.1 = σ.1))))))) ∧ (x4 = 0 → (Q (some (vi (-5))) s3 ∧ s3.1 = σ.1))))) ∧ (x2 = 0 → (Q (some (vi (-1))) s1 ∧ s1.1 = σ.1))))
  refine cal_i k1 rfl (b_t' (cal_i k2 rfl (b_t' (cp_v (m_putDown (d + 7) k.2.2 (DBM_of k.2.1)) rfl (fun h1 q1 e1 => ?_)))))
  have c1 := InM_keep k q1.1 q1.2
  refine cp_v (m_remember d c1.2.1 ip.2.1 hp) e1 (fun h2 q2 e2 => ?_)
  have c2 : InM h2 n t (nxD D x) (x.1, x.2.1, esR x p) := InM_rem c1 q2.1 q2.2.2
  rw [addN, ix (by omega)]
  have f3 : FrM (fun f k => (f = 235 ∧ k = 1920 + p) ∨ (f = 233 ∧ k = 5)) h2 (setI (setI h2 235 0 (1920 + p) (-6)) 233 0 5 (nI 0)) := ((FrM.rfl' _ _).sI (f := 235) (Or.inl ⟨rfl, rfl⟩) _).sI (f := 233) (k := 5) (Or.inr ⟨rfl, rfl⟩) _
  have sr : SrcM (setI (setI h2 235 0 (1920 + p) (-6)) 233 0 5 (nI 0)) p [] := ⟨fun l hl => (by cases hl), Nat.zero_le _, by rw [hI_f _ _ _ (by omega), hI_s]; rfl, trivial⟩
  have db := DBM_pg (h := setI (setI h2 235 0 (1920 + p) (-6)) 233 0 5 (nI 0)) hp (DBM_of c2.2.1) (fun i a b c => by rw [hI_f _ _ _ (by omega), hI_k _ _ _ _ c]) sr
  have c3 : InM (setI (setI h2 235 0 (1920 + p) (-6)) 233 0 5 (nI 0)) n t (nxD D x) (updP x.1 p [], x.2.1, esR x p) := InM_fr f3 (by omega) (by omega) (fun k w => by omega) (fun k w => by omega) (MS_of db gx (hI_s _ _ _ _ _)) c2
  refine ⟨inb (by omega) (by omega), Or.inl rfl, cal_i (m_sources (d + 5) c3.2.1.2.2.1) e2 ⟨hq _ ⟨c3, ((SPd_MF q1.2).tr (SRm_MF q2.2.2)).tr (fm_fr f3 fun g i w => by omega)⟩, e2⟩⟩
theorem op_remove (a : Int32) : OpOK 73 142 [vi a] := by
  intro L m n t D x hp
  cases c : rngI a 12 with
  | false => exact ⟨(-1), m, n, t, D, x, okM m, fun σ hB k => RI_PI hB (PI_EI (e_removeN 34 c) ⟨k, hp, Fi.rfl' _ _⟩), fun σ k _ => PI_EI (m_removeN 33 c) ⟨k, Fr.rfl' _ _⟩⟩
  | true =>
    obtain ⟨p, hp12, e⟩ := rngI_t (by omega) c
    subst e
    by_cases ne : x.1 p = []
    · refine ⟨(-5), m, n, t, D, x, okM m, fun σ hB k => RI_PI hB (PI_EI (e_removeE 34 hp12 (by have := k.2.1.1 p hp12; rw [ne] at this; exact this)) ⟨k, hp, Fi.rfl' _ _⟩), fun σ k _ => PI_EI (m_removeE 33 hp12 (by have := k.2.1.2.2.1 p hp12; rw [ne] at this; exact this)) ⟨k, Fr.rfl' _ _⟩⟩
    · exact ⟨srcB (updP x.1 p []) 12, kpM m D, n, t, nxD D x, (updP x.1 p [], x.2.1, esR x p), kpM_b hp, fun σ hB k => Ev_mo (e_removeY 16 hB k hp hp12 ne) (fun r s q _ => ⟨q.1, q.2.1.1, ⟨q.2.1.2, remE_u hp.2.1 _, nxD_u hp⟩, q.2.2⟩), fun σ k ip => m_removeY 27 k hp hp12 ne ip.1⟩
theorem m_loadN (d : Nat) {σ : Hp} {a : Int32} (h : rngI a 12 = false) : EI (d + 2) 140 [vr 233 0, vi a] σ (-1) σ := by
  refine EI_of mt_140 (Nat.le_of_ble_eq_true rfl) fun Q hq => ?_
  have k := m_isPage d σ a
  rw [h] at k
  refine wp_ok (cut := [9]) ma_140 rfl 5 _ _ _ _ ?_
  show CalI true (d + 1) 109 [vi a] σ σ.1 (fun x2 s1 => ((¬ x2 = 0 → Sat true (d + 2) 140 σ.1 Q 9 [some (vr 233 0), some (vi a), none] [] s1) ∧ (x2 = 0 → (Q (some (vi (-1))) s1 ∧ s1.1 = σ.1))))
  exact cal_i k rfl (b_f' ⟨hq, rfl⟩)
theorem m_loadF (d : Nat) {σ : Hp} {p n : Nat} {t : Nat → Nat} (hp : p < 12) (pd : PadM σ n t) (hf : pageF t n ≠ none) : PI (d + 9) 140 [vr 233 0, vi (nI p)] σ (-3) (fun h => Fr (fun f _ => f = 233 ∨ f = 237 ∨ f = 238) σ h ∧ ∀ k, k ≠ 6 → hI h 233 0 k = hI σ 233 0 k) := by
  refine PI_of mt_140 (Nat.le_of_ble_eq_true rfl) fun Q hq => ?_
  have k1 := m_isPage (d + 7) σ (nI p)
  rw [rngI_n hp (by omega)] at k1
  obtain ⟨h1, q1, f1, g1⟩ := m_page d pd
  refine wp_ok (cut := [21]) ma_140 rfl 9 _ _ _ _ ?_
  show CalI true (d + 8) 109 [vi (nI p)] σ σ.1 (fun x2 s1 => ((¬ x2 = 0 → CalI true (d + 8) 129 [vr 233 0] s1 σ.1 (fun x4 s3 => ((x4 = (-6) → Sat true (d + 9) 140 σ.1 Q 21 [some (vr 233 0), some (vi (nI p)), none] [] s3) ∧ (¬ x4 = (-6) → (Q (some (vi (-3))) s3 ∧ s3.1 = σ.1))))) ∧ (x2 = 0 → (Q (some (vi (-1))) s1 ∧ s1.1 = σ.1))))
  refine cal_i k1 rfl (b_t' (cal_i q1 rfl ⟨fun g => absurd ((pageF_6 pd.1).mp g) hf, fun _ => ⟨hq h1 ⟨f1.mo fun f p w => by omega, g1⟩, f1.1⟩⟩))
set_option maxRecDepth 6000 in
theorem m_loadY (d : Nat) {σ : Hp} {n p : Nat} {t : Nat → Nat} {D : List DB} {x : DB} {ls : List Line} (k : InM σ n t D x) (ip : InP D x) (hp : p < 12) (hf : pageF t n = none) (hg : gPg ls) (ne : ls ≠ []) (htx : txPg ls = sg t 0 n) (gx : gX (updP x.1 p ls)) : PI (d + 9) 140 [vr 233 0, vi (nI p)] σ (nI ls.length) (fun h => InM h 0 t (nxD D x) (updP x.1 p ls, x.2.1, esR x p) ∧ Fr MF σ h) := by
  refine PI_of mt_140 (Nat.le_of_ble_eq_true rfl) fun Q hq => ?_
  have n160 := k.1.1
  have hln : (sg t 0 n).length = n := sg_len t n 0
  have s38 : ∀ h0, h0.1 = σ.1 → InM h0 n t (nxD D x) (x.1, x.2.1, esR x p) → Fr MF σ h0 → Sat true (d + 9) 140 σ.1 Q 38 [some (vr 233 0), some (vi (nI p)), none] [] h0 := by
    intro h0 hB0 c0 fm
    have loop : ∀ (w i : Nat) (h : Hp), i + w = n → FrM (fun f k => f = 235 ∧ 160 * p ≤ k ∧ k < 160 * p + 160) h0 h → (∀ j, j < i → hI h 235 0 (160 * p + j) = nI (t j)) → Sat true (d + 9) 140 σ.1 Q 40 [some (vr 233 0), some (vi (nI p)), some (vi (nI i))] [] h := by
      intro w
      induction w with
      | zero =>
        intro i h hi f a1
        have hi : i = n := hi
        have hB : h.1 = σ.1 := f.1.trans hB0
        have e1 : hI h 233 0 1 = nI n := by rw [f.2.2.2 233 0 1 (fun w => by have := w.2; omega)]; exact c0.1.2.1
        refine wp_ok (cut := [40]) ma_140 rfl 22 _ _ _ _ ?_
        show (((hI h 233 0 1) ≤ (nI i) → (vp_in ((nI 1920) + (nI p)) 2830 ∧ (((nI 0) = 0 ∨ (nI 0) = 1) ∧ CalI true (d + 8) 139 [vr 233 0, vi (nI p)] (setI (setI (setI h 235 0 (((nI 1920) + (nI p)).toNatClampNeg) (hI h 233 0 1)) 233 0 1 (nI 0)) 233 0 5 (nI 0)) σ.1 (fun x2 s1 => (Q (some (vi x2)) s1 ∧ s1.1 = σ.1))))) ∧ (¬ (hI h 233 0 1) ≤ (nI i) → (vp_in (nI i) 160 ∧ (vp_in (((nI 160) * (nI p)) + (nI i)) 2830 ∧ Sat true (d + 9) 140 σ.1 Q 40 [some (vr 233 0), some (vi (nI p)), some (vi ((nI i) + nI 1))] [] (setI h 235 0 ((((nI 160) * (nI p)) + (nI i)).toNatClampNeg) (hI h 234 0 ((nI i).toNatClampNeg)))))))
        rw [e1, addN, ix (by omega)]
        have f3 : FrM (fun f k => (f = 235 ∧ ((160 * p ≤ k ∧ k < 160 * p + 160) ∨ k = 1920 + p)) ∨ (f = 233 ∧ (k = 1 ∨ k = 5))) h0 (setI (setI (setI h 235 0 (1920 + p) (nI n)) 233 0 1 (nI 0)) 233 0 5 (nI 0)) := (((f.mo fun f k w => Or.inl ⟨w.1, Or.inl w.2⟩).sI (f := 235) (Or.inl ⟨rfl, Or.inr rfl⟩) _).sI (f := 233) (k := 1) (Or.inr ⟨rfl, Or.inl rfl⟩) _).sI (f := 233) (k := 5) (Or.inr ⟨rfl, Or.inr rfl⟩) _
        have r235 : ∀ j, hI (setI (setI (setI h 235 0 (1920 + p) (nI n)) 233 0 1 (nI 0)) 233 0 5 (nI 0)) 235 0 j = if j = 1920 + p then nI n else hI h 235 0 j := fun j => by
          rw [hI_f _ _ _ (by omega), hI_f _ _ _ (by omega)]
          by_cases c : j = 1920 + p
          · rw [if_pos c, c, hI_s]
          · rw [if_neg c, hI_k _ _ _ _ c]
        have sr : SrcM (setI (setI (setI h 235 0 (1920 + p) (nI n)) 233 0 1 (nI 0)) 233 0 5 (nI 0)) p ls := ⟨hg, by rw [htx, hln]; exact n160, by rw [r235, if_pos rfl, if_neg ne, htx, hln], by
          unfold TxM
          rw [Nat.add_zero, htx]
          refine Tx_sg fun j hj => ?_
          rw [r235, if_neg (by omega), Nat.zero_add]
          exact a1 j (by omega)⟩
        have db := DBM_pg (h := setI (setI (setI h 235 0 (1920 + p) (nI n)) 233 0 1 (nI 0)) 233 0 5 (nI 0)) hp (DBM_of c0.2.1) (fun j a b c => by
          rw [r235, if_neg c]
          exact f.2.2.2 235 0 j (fun w => by have := w.2; omega)) sr
        refine br_le (by omega) (by omega) (fun _ => ⟨inb (by omega) (by omega), Or.inl rfl, cal_i (m_linesOf (d + 7) hp sr ne) hB ⟨hq _ ⟨⟨pm_0 t ?_, MS_of db gx (hI_s _ _ _ _ _), HiM_fr f3 (by omega) (fun k w => by omega) c0.2.2⟩, fm.tr (fm_fr f3 fun g i w => by omega)⟩, hB⟩⟩) (fun g => by omega)
        rw [hI_k _ _ _ _ (by omega), hI_s]
      | succ w ih =>
        intro i h hi f a1
        have e1 : hI h 233 0 1 = nI n := by rw [f.2.2.2 233 0 1 (fun w => by have := w.2; omega)]; exact c0.1.2.1
        have e2 : hI h 234 0 i = nI (t i) := by rw [f.2.2.2 234 0 i (fun w => by have := w.2; omega)]; exact (c0.1.2.2 i (by omega)).1
        refine wp_ok (cut := [40]) ma_140 rfl 22 _ _ _ _ ?_
        show (((hI h 233 0 1) ≤ (nI i) → (vp_in ((nI 1920) + (nI p)) 2830 ∧ (((nI 0) = 0 ∨ (nI 0) = 1) ∧ CalI true (d + 8) 139 [vr 233 0, vi (nI p)] (setI (setI (setI h 235 0 (((nI 1920) + (nI p)).toNatClampNeg) (hI h 233 0 1)) 233 0 1 (nI 0)) 233 0 5 (nI 0)) σ.1 (fun x2 s1 => (Q (some (vi x2)) s1 ∧ s1.1 = σ.1))))) ∧ (¬ (hI h 233 0 1) ≤ (nI i) → (vp_in (nI i) 160 ∧ (vp_in (((nI 160) * (nI p)) + (nI i)) 2830 ∧ Sat true (d + 9) 140 σ.1 Q 40 [some (vr 233 0), some (vi (nI p)), some (vi ((nI i) + nI 1))] [] (setI h 235 0 ((((nI 160) * (nI p)) + (nI i)).toNatClampNeg) (hI h 234 0 ((nI i).toNatClampNeg)))))))
        rw [e1, mulN, addN (160 * p) i, addN i 1, ix (n := 160 * p + i) (by omega), ix (n := i) (by omega), e2]
        refine br_le (by omega) (by omega) (fun g => by omega) (fun _ => ⟨inb (by omega) (by omega), inb (by omega) (by omega), ih (i + 1) _ (by omega) (f.sI (f := 235) ⟨rfl, by omega, by omega⟩ _) (fun j hj => ?_)⟩)
        by_cases c : j = i
        · rw [c, hI_s]
        · rw [hI_k _ _ _ _ (by omega)]
          exact a1 j (by omega)
    refine wp_ok (cut := [40]) ma_140 rfl 2 _ _ _ _ ?_
    show Sat true (d + 9) 140 σ.1 Q 40 [some (vr 233 0), some (vi (nI p)), some (vi (nI 0))] [] h0
    exact loop n 0 h0 (by omega) (FrM.rfl' _ _) (fun j hj => absurd hj (Nat.not_lt_zero _))
  have k1 := m_isPage (d + 7) σ (nI p)
  rw [rngI_n hp (by omega)] at k1
  obtain ⟨h1, q1, f1, g1⟩ := m_page d k.1
  have c1 := InM_6 (f1.mo fun f p w => by omega) g1 k
  refine wp_ok (cut := [38]) ma_140 rfl 16 _ _ _ _ ?_
  show CalI true (d + 8) 109 [vi (nI p)] σ σ.1 (fun x2 s1 => ((¬ x2 = 0 → CalI true (d + 8) 129 [vr 233 0] s1 σ.1 (fun x4 s3 => ((x4 = (-6) → CalV true (d + 8) 133 [vr 233 0] s3 σ.1 (fun s5 => CalI true (d + 8) 111 [vr 233 0, vi (nI p)] s5 σ.1 (fun x7 s6 => ((x7 = 0 → Sat true (d + 9) 140 σ.1 Q 38 [some (vr 233 0), some (vi (nI p)), none] [] s6) ∧ (¬ x7 = 0 → CalV true (d + 8) 136 [vr 233 0, vi (nI p)] s6 σ.1 (fun s8 => Sat true (d + 9) 140 σ.1 Q 38 [some (vr 233 0), some (vi (nI p)), none] [] s8)))))) ∧ (¬ x4 = (-6) → (Q (some (vi (-3))) s3 ∧ s3.1 = σ.1))))) ∧ (x2 = 0 → (Q (some (vi (-1))) s1 ∧ s1.1 = σ.1))))
  refine cal_i k1 rfl (b_t' (cal_i q1 rfl ⟨fun _ => ?_, fun g => absurd ((pageF_6 n160).mpr hf) g⟩))
  refine cp_v (m_putDown (d + 8) c1.2.2 (DBM_of c1.2.1)) f1.1 (fun h2 q2 e2 => ?_)
  have c2 := InM_keep c1 q2.1 q2.2
  have fm : Fr MF σ h2 := (f1.mo fun f p w => by unfold MF; omega).tr (SPd_MF q2.2)
  refine cal_i (m_has (d + 7) hp (c2.2.1.2.2.1 p hp)) e2 (brI (fun g => ?_) (fun g => ?_))
  · have en : x.1 p = [] := pnil g
    have : esR x p = x.2.2 := by
      unfold esR
      rw [en]
      rfl
    refine s38 h2 e2 ?_ fm
    rw [this]
    exact c2
  · refine cp_v (m_remember (d + 1) c2.2.1 ip.2.1 hp) e2 (fun h3 q3 e3 => ?_)
    exact s38 h3 e3 (InM_rem c2 q3.1 q3.2.2) (fm.tr (SRm_MF q3.2.2))
theorem op_load (a : Int32) : OpOK 72 140 [vi a] := by
  intro L m n t D x hp
  cases c : rngI a 12 with
  | false => exact ⟨(-1), m, n, t, D, x, okM m, fun σ hB k => RI_PI hB (PI_EI (e_loadN 34 c) ⟨k, hp, Fi.rfl' _ _⟩), fun σ k _ => PI_EI (m_loadN 33 c) ⟨k, Fr.rfl' _ _⟩⟩
  | true =>
    obtain ⟨p, hp12, e⟩ := rngI_t (by omega) c
    subst e
    by_cases hf : pageF t n = none
    · obtain ⟨ls, g1, g2, g3⟩ := page_of hf
      exact ⟨nI ls.length, kpM m D, 0, t, nxD D x, (updP x.1 p ls, x.2.1, esR x p), kpM_b hp, fun σ hB k => Ev_mo (e_loadY 16 hB k hp hp12 hf g2 g3) (fun r s q _ => ⟨q.1, q.2.1.1, ⟨q.2.1.2, remE_u hp.2.1 _, nxD_u hp⟩, q.2.2⟩), fun σ k ip => m_loadY 26 k hp hp12 hf g2 g1 g3 ip.1⟩
    · refine ⟨(-3), m, n, t, D, x, okM m, fun σ hB k => RI_PI hB (PI_mo (e_loadF 29 hp12 k.1 hf) fun h f => ⟨InC_5 f k, hp, Fr_CF f fun g i w => by omega⟩), fun σ k _ => PI_mo (m_loadF 26 hp12 k.1 hf) fun h q => ⟨InM_6 q.1 q.2 k, q.1.mo fun f p w => by unfold MF; omega⟩⟩
