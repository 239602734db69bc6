/-! calls: mend, straighten -/
section
variable {σ : Hp} {m n L p j : Nat} {t : Nat → Nat} {D : List DB} {x : DB} {k : Lk}
noncomputable abbrev bx (x : DB) (k : Lk) : Bs := repB x.1 (XF x.1) x.2.2 k
noncomputable abbrev rx (x : DB) (k : Lk) : Rs := rtRun x.1 (XF x.1) x.2.1 (k.1, k.2.1)
theorem e_mendN (d : Nat) {P : Nat → List Line} {X : Nat → XA} {rs : List (Pl × Pl)} {es : List En} (cs : CS σ P X rs es) {a b : Int32} (h : lkB P a b = false) : EI (d + 2) 88 [vr 1 0, vi a, vi b] σ (-1) σ := by
  refine EI_of mt_88 (Nat.le_of_ble_eq_true rfl) fun Q hq => ?_
  have k := e_isLink d cs a b
  rw [h] at k
  refine wp_ok (cut := [11]) ma_88 rfl 7 _ _ _ _ ?_
  show CalI true (d + 1) 95 [vr 1 0, vi a, vi b] σ σ.1 (fun x2 s1 => ((¬ x2 = 0 → Sat true (d + 2) 88 σ.1 Q 11 [some (vr 1 0), some (vi a), some (vi b)] [] s1) ∧ (x2 = 0 → (Q (some (vi (-1))) s1 ∧ s1.1 = σ.1))))
  exact cal_i k rfl (b_f' ⟨hq, rfl⟩)
theorem lkB_n {P : Nat → List Line} {p j : Nat} {k : Lk} (hP : gP P) (hp : p < 12) (hk : (lkPg p 0 (P p))[j]? = some k) : lkB P (nI p) (nI j) = true ∧ j < 40 := by
  have hj := All_lt hk
  have b := (bds hP hp).2
  have b2 := lkPg_b p (ls := P p) 0 (hP p hp).1
  have b3 := (hP p hp).2
  refine ⟨?_, by omega⟩
  unfold lkB
  rw [rngI_n hp (by omega), ix (by omega), rngI_n hj (by omega)]
  rfl
theorem e_mendU (d : Nat) (c : InC σ m n t D x) (hp : p < 12) (hk : (lkPg p 0 (x.1 p))[j]? = some k) (hb : brB x.1 (XF x.1) x.2.1 k = false) : PI (d + 4) 88 [vr 1 0, vi (nI p), vi (nI j)] σ (-5) (fun h => Fr QF σ h) := by
  refine PI_of mt_88 (Nat.le_of_ble_eq_true rfl) fun Q hq => ?_
  have il := e_isLink (d + 2) c.2.1 (nI p) (nI j)
  rw [(lkB_n (gP_of c.2.1) hp hk).1] at il
  have ib := e_isBroken d c.2.1 (gP_of c.2.1) hp hk
  rw [hb] at ib
  refine wp_ok (cut := [23]) ma_88 rfl 12 _ _ _ _ ?_
  show CalI true (d + 3) 95 [vr 1 0, vi (nI p), vi (nI j)] σ σ.1 (fun x2 s1 => ((¬ x2 = 0 → CalI true (d + 3) 100 [vr 1 0, vi (nI p), vi (nI j)] s1 σ.1 (fun x4 s3 => ((¬ x4 = 0 → Sat true (d + 4) 88 σ.1 Q 23 [some (vr 1 0), some (vi (nI p)), some (vi (nI j))] [] s3) ∧ (x4 = 0 → (Q (some (vi (-5))) s3 ∧ s3.1 = σ.1))))) ∧ (x2 = 0 → (Q (some (vi (-1))) s1 ∧ s1.1 = σ.1))))
  exact cal_i il rfl (b_t' (cp_i ib rfl (fun h1 q1 e1 => b_f' ⟨hq h1 (RF_QF q1.2), e1⟩)))
theorem InC_q {h : Hp} (f : Fr QF σ h) (c : InC σ m n t D x) : InC h m n t D x := InC_fr f (fun g i w u => by unfold QF at u; omega) c
/-- up to the writing -/
theorem s_mend (d : Nat) {B : Nat × Nat × Nat} {Q : Option AV → Hp → Prop} (hB : leB σ.1 B) (c : InC σ m n t D x) (gx : gX x.1) (hp : p < 12) (hk : (lkPg p 0 (x.1 p))[j]? = some k) (hb : brB x.1 (XF x.1) x.2.1 k = true) (K : ∀ h2, h2.1 = σ.1 → InC h2 m n t D x → Fi CF σ h2 → gAO (bx x k).2.2.2 → (bx x k).2.1 < 12 → CalI true (d + 7) 105 [vr 1 0, vi (nI p), vi (nI j), vi (nI (bx x k).2.1), vl (lN (anO (bx x k).2.2.2)), vi (nI 1)] h2 B (fun v s => Q (some (vi v)) s ∧ s.1 = B)) : Sat true (d + 8) 88 B Q 0 [some (vr 1 0), some (vi (nI p)), some (vi (nI j))] [] σ := by
  have il := e_isLink (d + 6) c.2.1 (nI p) (nI j)
  rw [(lkB_n (gP_of c.2.1) hp hk).1] at il
  have ib := e_isBroken (d + 4) c.2.1 (gP_of c.2.1) hp hk
  rw [hb] at ib
  refine wp_ok (cut := []) ma_88 rfl 31 _ _ _ _ ?_
  show CalI true (d + 7) 95 [vr 1 0, vi (nI p), vi (nI j)] σ B (fun x2 s1 => ((¬ x2 = 0 → CalI true (d + 7) 100 [vr 1 0, vi (nI p), vi (nI j)] s1 B (fun x4 s3 => ((¬ x4 = 0 → (vp_in (nI p) 12 ∧ CalV true (d + 7) 16 [vr 229 0, vr 21 ((nI p).toNatClampNeg), vi (nI j)] s3 B (fun s5 => CalI true (d + 7) 105 [vr 1 0, vi (nI p), vi (nI j), vi (hI s5 229 0 2), vl (hL s5 229 0 4), vi (nI 1)] s5 B (fun x7 s6 => (Q (some (vi x7)) s6 ∧ s6.1 = B))))) ∧ (x4 = 0 → (Q (some (vi (-5))) s3 ∧ s3.1 = B))))) ∧ (x2 = 0 → (Q (some (vi (-1))) s1 ∧ s1.1 = B))))
  rw [ix (by omega)]
  refine dl_i il hB (b_t' (dp_i ib hB (fun h1 q1 e1 => b_t' ⟨inb (by omega) (by omega), ?_⟩)))
  have c1 := InC_q (RF_QF q1.2) c
  refine dp_v (e_find (d + 3) c1.2.1 (gP_of c1.2.1) gx hp hk) (by rw [e1]; exact hB) (fun h2 q2 e2 => ?_)
  obtain ⟨⟨b1, b2, b3, b4, b5, b6, b7⟩, f2⟩ := q2
  have b2 : hI h2 229 0 2 = nI (bx x k).2.1 := b2
  have b4 : hL h2 229 0 4 = lN (anO (bx x k).2.2.2) := b4
  rw [b2, b4]
  exact K h2 (e2.trans e1) (InC_q f2 c1) ((QF_CF (RF_QF q1.2)).tr (QF_CF f2)) b7 b6
theorem e_mendT (d : Nat) (c : InC σ m n t D x) (gx : gX x.1) (hp : p < 12) (hk : (lkPg p 0 (x.1 p))[j]? = some k) (hb : brB x.1 (XF x.1) x.2.1 k = true) (hl : 160 < lenX x p k (tgW p (bx x k).2.1 (bx x k).2.2.2)) : PI (d + 8) 88 [vr 1 0, vi (nI p), vi (nI j)] σ (-4) (fun h => InC h m n t D x ∧ Fi CF σ h) := PI_of mt_88 (Nat.le_of_ble_eq_true rfl) fun Q hq => s_mend d (leB.rfl' _) c gx hp hk hb (fun h2 e2 c2 f2 ga hq12 => cp_i (e_wpT (d + 4) c2 hp hk hq12 ga hl) e2 (fun h3 q3 e3 => ⟨hq h3 ⟨q3.1, f2.tr q3.2⟩, e3⟩))
theorem e_mendY (d : Nat) (hB : σ.1 = Bm m L) (c : InC σ m n t D x) (gx : gX x.1) (hp : p < 12) (hk : (lkPg p 0 (x.1 p))[j]? = some k) (hb : brB x.1 (XF x.1) x.2.1 k = true) (hl : lenX x p k (tgW p (bx x k).2.1 (bx x k).2.2.2) ≤ 160) : RI (d + 8) 88 [vr 1 0, vi (nI p), vi (nI j)] σ (Bm (kpM m D) L) (nI (lenX x p k (tgW p (bx x k).2.1 (bx x k).2.2.2))) (fun h => InC h (kpM m D) n t (nxD D x) (wrX x p k (tgW p (bx x k).2.1 (bx x k).2.2.2)) ∧ gX (wrX x p k (tgW p (bx x k).2.1 (bx x k).2.2.2)).1 ∧ Fi CF σ h) := by
  have hB' : leB σ.1 (Bm (kpM m D) L) := by rw [hB]; exact Bm_le L (kpM_ge m D)
  exact RI_of mt_88 (Nat.le_of_ble_eq_true rfl) hB' fun Q hq => s_mend d hB' c gx hp hk hb (fun h2 e2 c2 f2 ga hq12 => cr_i (e_wpY d (e2.trans hB) c2 gx hp hk hq12 ga hl) (leB.rfl' _) (fun h3 q3 e3 => ⟨hq h3 ⟨q3.1, q3.2.1, f2.tr q3.2.2⟩, e3⟩))
/-! straighten -/
theorem e_strN (d : Nat) {P : Nat → List Line} {X : Nat → XA} {rs : List (Pl × Pl)} {es : List En} (cs : CS σ P X rs es) {a b : Int32} (h : lkB P a b = false) : EI (d + 2) 90 [vr 1 0, vi a, vi b] σ (-1) σ := by
  refine EI_of mt_90 (Nat.le_of_ble_eq_true rfl) fun Q hq => ?_
  have k := e_isLink d cs a b
  rw [h] at k
  refine wp_ok (cut := [11]) ma_90 rfl 7 _ _ _ _ ?_
  show CalI true (d + 1) 95 [vr 1 0, vi a, vi b] σ σ.1 (fun x2 s1 => ((¬ x2 = 0 → Sat true (d + 2) 90 σ.1 Q 11 [some (vr 1 0), some (vi a), some (vi b), none] [] s1) ∧ (x2 = 0 → (Q (some (vi (-1))) s1 ∧ s1.1 = σ.1))))
  exact cal_i k rfl (b_f' ⟨hq, rfl⟩)
theorem e_strU (d : Nat) (c : InC σ m n t D x) (hp : p < 12) (hk : (lkPg p 0 (x.1 p))[j]? = some k) (hb : (rx x k).1 ≠ 1) : PI (d + 3) 90 [vr 1 0, vi (nI p), vi (nI j)] σ (-5) (fun h => Fr QF σ h) := by
  refine PI_of mt_90 (Nat.le_of_ble_eq_true rfl) fun Q hq => ?_
  have il := e_isLink (d + 1) c.2.1 (nI p) (nI j)
  rw [(lkB_n (gP_of c.2.1) hp hk).1] at il
  have rk : (rx x k).1 ≤ 4 := rtRun_k x.1 (XF x.1) x.2.1 (k.1, k.2.1)
  refine wp_ok (cut := [44]) ma_90 rfl 23 _ _ _ _ ?_
  show CalI true (d + 2) 95 [vr 1 0, vi (nI p), vi (nI j)] σ σ.1 (fun x2 s1 => ((¬ x2 = 0 → (vp_in (nI p) 12 ∧ CalV true (d + 2) 43 [vr 225 0, vr 21 ((nI p).toNatClampNeg), vi (nI j)] s1 σ.1 (fun s3 => (((hI s3 225 0 1) = (nI 1) → Sat true (d + 3) 90 σ.1 Q 44 [some (vr 1 0), some (vi (nI p)), some (vi (nI j)), some (vr 21 ((nI p).toNatClampNeg))] [] s3) ∧ (¬ (hI s3 225 0 1) = (nI 1) → (Q (some (vi (-5))) s3 ∧ s3.1 = σ.1)))))) ∧ (x2 = 0 → (Q (some (vi (-1))) s1 ∧ s1.1 = σ.1))))
  rw [ix (by omega)]
  refine cal_i il rfl (b_t' ⟨inb (by omega) (by omega), cp_v (e_way d c.2.1 (gP_of c.2.1) hp hk) rfl (fun h1 q1 e1 => ?_)⟩)
  have r1 : hI h1 225 0 1 = nI (rx x k).1 := q1.1.1
  rw [r1]
  exact br_eq (by omega) (by omega) (fun g => absurd g hb) (fun _ => ⟨hq h1 (RF_QF q1.2), e1⟩)
theorem s_str (d : Nat) {B : Nat × Nat × Nat} {Q : Option AV → Hp → Prop} (hB : leB σ.1 B) (c : InC σ m n t D x) (hp : p < 12) (hk : (lkPg p 0 (x.1 p))[j]? = some k) (hb : (rx x k).1 = 1) (K : ∀ h2, h2.1 = σ.1 → InC h2 m n t D x → Fi CF σ h2 → gAO (rx x k).2.1.2 → (rx x k).2.1.1 < 12 → CalI true (d + 7) 105 [vr 1 0, vi (nI p), vi (nI j), vi (nI (rx x k).2.1.1), vl (lN (anO (rx x k).2.1.2)), vi (nI 1)] h2 B (fun v s => Q (some (vi v)) s ∧ s.1 = B)) : Sat true (d + 8) 90 B Q 0 [some (vr 1 0), some (vi (nI p)), some (vi (nI j)), none] [] σ := by
  have il := e_isLink (d + 6) c.2.1 (nI p) (nI j)
  rw [(lkB_n (gP_of c.2.1) hp hk).1] at il
  refine wp_ok (cut := []) ma_90 rfl 33 _ _ _ _ ?_
  show CalI true (d + 7) 95 [vr 1 0, vi (nI p), vi (nI j)] σ B (fun x2 s1 => ((¬ x2 = 0 → (vp_in (nI p) 12 ∧ CalV true (d + 7) 43 [vr 225 0, vr 21 ((nI p).toNatClampNeg), vi (nI j)] s1 B (fun s3 => (((hI s3 225 0 1) = (nI 1) → CalI true (d + 7) 105 [vr 1 0, vi (nI p), vi (nI j), vi (hI s3 225 0 2), vl (hL s3 225 0 3), vi (nI 1)] s3 B (fun x5 s4 => (Q (some (vi x5)) s4 ∧ s4.1 = B))) ∧ (¬ (hI s3 225 0 1) = (nI 1) → (Q (some (vi (-5))) s3 ∧ s3.1 = B)))))) ∧ (x2 = 0 → (Q (some (vi (-1))) s1 ∧ s1.1 = B))))
  rw [ix (by omega)]
  refine dl_i il hB (b_t' ⟨inb (by omega) (by omega), dp_v (e_way (d + 5) c.2.1 (gP_of c.2.1) hp hk) hB (fun h1 q1 e1 => ?_)⟩)
  obtain ⟨⟨r1, r2, r3, r4, r5, r6, r7, r8⟩, f1⟩ := q1
  have r1 : hI h1 225 0 1 = nI (rx x k).1 := r1
  have r2 : hI h1 225 0 2 = nI (rx x k).2.1.1 := r2
  have r3 : hL h1 225 0 3 = lN (anO (rx x k).2.1.2) := r3
  rw [r1, hb, r2, r3]
  exact br_eq (by omega) (by omega) (fun _ => K h1 e1 (InC_q (RF_QF f1) c) (QF_CF (RF_QF f1)) r8.2 r8.1) (fun g => absurd rfl g)
theorem e_strT (d : Nat) (c : InC σ m n t D x) (hp : p < 12) (hk : (lkPg p 0 (x.1 p))[j]? = some k) (hb : (rx x k).1 = 1) (hl : 160 < lenX x p k (tgW p (rx x k).2.1.1 (rx x k).2.1.2)) : PI (d + 8) 90 [vr 1 0, vi (nI p), vi (nI j)] σ (-4) (fun h => InC h m n t D x ∧ Fi CF σ h) := PI_of mt_90 (Nat.le_of_ble_eq_true rfl) fun Q hq => s_str d (leB.rfl' _) c hp hk hb (fun h2 e2 c2 f2 ga hq12 => cp_i (e_wpT (d + 4) c2 hp hk hq12 ga hl) e2 (fun h3 q3 e3 => ⟨hq h3 ⟨q3.1, f2.tr q3.2⟩, e3⟩))
theorem e_strY (d : Nat) (hB : σ.1 = Bm m L) (c : InC σ m n t D x) (gx : gX x.1) (hp : p < 12) (hk : (lkPg p 0 (x.1 p))[j]? = some k) (hb : (rx x k).1 = 1) (hl : lenX x p k (tgW p (rx x k).2.1.1 (rx x k).2.1.2) ≤ 160) : RI (d + 8) 90 [vr 1 0, vi (nI p), vi (nI j)] σ (Bm (kpM m D) L) (nI (lenX x p k (tgW p (rx x k).2.1.1 (rx x k).2.1.2))) (fun h => InC h (kpM m D) n t (nxD D x) (wrX x p k (tgW p (rx x k).2.1.1 (rx x k).2.1.2)) ∧ gX (wrX x p k (tgW p (rx x k).2.1.1 (rx x k).2.1.2)).1 ∧ Fi CF σ h) := by
  have hB' : leB σ.1 (Bm (kpM m D) L) := by rw [hB]; exact Bm_le L (kpM_ge m D)
  exact RI_of mt_90 (Nat.le_of_ble_eq_true rfl) hB' fun Q hq => s_str d hB' c hp hk hb (fun h2 e2 c2 f2 ga hq12 => cr_i (e_wpY d (e2.trans hB) c2 gx hp hk hq12 ga hl) (leB.rfl' _) (fun h3 q3 e3 => ⟨hq h3 ⟨q3.1, q3.2.1, f2.tr q3.2.2⟩, e3⟩))
end
/-! the model's pieces -/
section
variable {σ : Hp} {n p j q : Nat} {t : Nat → Nat} {D : List DB} {x : DB} {k : Lk} {an : Option Anc} {hd : Int32}
theorem LdX_r {S : Nat → Nat → Prop} {h : Hp} (f : FrM S σ h) (ns : ∀ g i, S g i → g = 236 ∨ g = 264 ∨ (g = 233 ∧ i ≠ 5)) (ms : MS σ x.1 (XF x.1) x.2.1 x.2.2) (ld : LdX σ x.1 (XF x.1)) : LdX h x.1 (XF x.1) := LdX_fr ms.1 ms.2.1 f (fun p f k _ w u => by have := ns _ _ u; unfold Reg at w; omega) (fun u => by have := ns _ _ u; omega) ld
theorem m_lt (d : Nat) (c : InM σ n t D x) (ld : LdX σ x.1 (XF x.1)) (hp : p < 12) (hq12 : q < 12) (hh : hdAn (XF x.1 q).2.2.1 hd an) : PV (d + 1) 196 [vr 233 0, vi (nI p), vi (nI q), vi hd] σ (fun h => InM h n t D x ∧ LdX h x.1 (XF x.1) ∧ TgM h (tgW p q an) ∧ Fr MF σ h) := by
  have ga : gAO an := hdAn_g c.2.1.1 hq12 (c.2.1.2.1 q hq12).1 hh
  refine Ev_mo (m_layTarget d ld c.2.1.2.1 hp hq12 ga hh) (fun r s w _ => ⟨w.1, ?_⟩)
  obtain ⟨w1, f⟩ := w.2
  have ns : ∀ g i, STm g i → g = 236 ∨ g = 264 ∨ (g = 233 ∧ i ≠ 5) := fun g i u => by unfold STm at u; omega
  have ld2 := LdX_r f ns c.2.1 ld
  exact ⟨InM_fr f (by unfold STm; omega) (by unfold STm; omega) (fun k u => by unfold STm at u; omega) (fun k u => by unfold STm at u; omega) (MS_fr f (fun k u => by unfold STm at u; omega) (LdX_is c.2.1.2.1 ld2) c.2.1) c, ld2, w1, fm_fr f fun g i u => by have := ns _ _ u; omega⟩
theorem m_ft (d : Nat) (c : InM σ n t D x) (ld : LdX σ x.1 (XF x.1)) (hp : p < 12) (hk : (lkPg p 0 (x.1 p))[j]? = some k) {w : List Nat} (tg : TgM σ w) (hw : w.length ≤ 13) : EI (d + 1) 197 [vr 233 0, vi (nI p), vi (nI j)] σ (bI (decide (lenX x p k w ≤ 160))) σ := m_fitsTarget d hp (by have := (lkB_n c.2.1.1 hp hk).2; omega) (c.2.1.2.2.1 p hp) hk ((ld.2 p hp).1.2.2.2.2.2.2.1 j k hk) tg.1 hw
theorem m_pd (d : Nat) (c : InM σ n t D x) (ld : LdX σ x.1 (XF x.1)) {w : List Nat} (tg : TgM σ w) : PV d 133 [vr 233 0] σ (fun h => InM h n t (nxD D x) x ∧ LdX h x.1 (XF x.1) ∧ TgM h w ∧ Fr MF σ h) := by
  refine Ev_mo (m_putDown d c.2.2 (DBM_of c.2.1)) (fun r s u _ => ⟨u.1, ?_⟩)
  obtain ⟨u1, f⟩ := u.2
  exact ⟨InM_keep c u1 f, LdX_r f (fun g i u => by unfold SPd at u; omega) c.2.1 ld, ⟨by rw [f.2.2.2 233 0 44 (fun u => by have := u.2; unfold SPd at this; omega)]; exact tg.1, by rw [f.fam (f := 264) (fun k u => by unfold SPd at u; omega) 0]; exact tg.2⟩, SPd_MF f⟩
theorem wr_sk (hg : gP x.1) (hp : p < 12) (hk : (lkPg p 0 (x.1 p))[j]? = some k) (hq12 : q < 12) (ga : gAO an) : ∀ r, ((wrX x p k (tgW p q an)).1 r).map skel = (x.1 r).map skel := upd_sk (wrL_ok (hg p hp).1 hk (tg_g (p := p) hq12 ga)).1.2.1
theorem m_wt (d : Nat) (c : InM σ n t D x) (gx : gX x.1) (ld : LdX σ x.1 (XF x.1)) (hp : p < 12) (hk : (lkPg p 0 (x.1 p))[j]? = some k) (hq12 : q < 12) (ga : gAO an) (tg : TgM σ (tgW p q an)) (hl : lenX x p k (tgW p q an) ≤ 160) : PV (d + 1) 198 [vr 233 0, vi (nI p), vi (nI j)] σ (fun h => InM h n t D (wrX x p k (tgW p q an)) ∧ hI h 235 0 (1920 + p) = nI (lenX x p k (tgW p q an)) ∧ Fr MF σ h) := by
  have jl := (lkB_n c.2.1.1 hp hk).2
  refine Ev_mo (m_writeTarget d (P := x.1) (rs := x.2.1) (es := x.2.2) (DBM_of c.2.1) hp (by omega) hk ((ld.2 p hp).1.2.2.2.2.2.2.1 j k hk) (tg_g (p := p) hq12 ga) (tgW_len ga) tg hl) (fun r s u _ => ⟨u.1, ?_⟩)
  obtain ⟨u1, u2, f, u3⟩ := u.2
  exact ⟨InM_fr f (by unfold SWt; omega) (by unfold SWt; omega) (fun k u => by unfold SWt at u; omega) (fun k u => by unfold SWt at u; omega) (MS_of (x := wrX x p k (tgW p q an)) u1 (gX_sk (wr_sk c.2.1.1 hp hk hq12 ga) gx) u2) c, u3, fm_fr f fun g i u => by unfold SWt at u; omega⟩
theorem m_il (d : Nat) (c : InM σ n t D x) (a b : Int32) : PI (d + 6) 178 [vr 233 0, vi a, vi b] σ (bI (lkB x.1 a b)) (fun h => InM h n t D x ∧ LdX h x.1 (XF x.1) ∧ Fr MF σ h) := Ev_mo (m_isLink d c.2.1 a b) (fun r s u _ => ⟨u.1, InM_fr u.2.2.2 (by unfold SLay; omega) (by unfold SLay; omega) (fun k u => by unfold SLay at u; omega) (fun k u => by unfold SLay at u; omega) u.2.1 c, u.2.2.1, fm_fr u.2.2.2 fun g i u => by unfold SLay at u; omega⟩)
theorem InM_q {h : Hp} (c : InM σ n t D x) (ms : MS h x.1 (XF x.1) x.2.1 x.2.2) (f : FrM SQ σ h) : InM h n t D x ∧ Fr MF σ h := ⟨InM_fr f (by unfold SQ SLay SRes; omega) (by unfold SQ SLay SRes; omega) (fun k u => by unfold SQ SLay SRes at u; omega) (fun k u => by unfold SQ SLay SRes at u; omega) ms c, SA_MF (SQ_A f)⟩
theorem m_ib (d : Nat) (c : InM σ n t D x) (hp : p < 12) (hk : (lkPg p 0 (x.1 p))[j]? = some k) : PI (d + 9) 193 [vr 233 0, vi (nI p), vi (nI j)] σ (bI (brB x.1 (XF x.1) x.2.1 k)) (fun h => InM h n t D x ∧ LdX h x.1 (XF x.1) ∧ Fr MF σ h) := Ev_mo (m_isBroken d c.2.1 hp hk) (fun r s u _ => ⟨u.1, (InM_q c u.2.1 u.2.2.2.2).1, u.2.2.1, (InM_q c u.2.1 u.2.2.2.2).2⟩)
theorem m_lr (d : Nat) (c : InM σ n t D x) (hp : p < 12) (hk : (lkPg p 0 (x.1 p))[j]? = some k) (hb : brB x.1 (XF x.1) x.2.1 k = true) : PV (d + 6) 192 [vr 233 0, vi (nI p), vi (nI j)] σ (fun h => InM h n t D x ∧ LdX h x.1 (XF x.1) ∧ (hI h 233 0 40 = nI (bx x k).2.1 ∧ hI h 233 0 41 = (bx x k).2.2.1) ∧ Fr MF σ h) := Ev_mo (m_layRepair d c.2.1 hp hk (br_ng hb)) (fun r s u _ => by
  obtain ⟨u0, u1, u2, u3, f⟩ := u
  have gl := (lkPg_g hp (x.1 p) 0 (c.2.1.1 p hp).1 k (List.mem_of_getElem? hk)).1
  have lt : (bx x k).1 < 1000 := ofA_lt gl hp (lk_ne hk)
  have f : FrM SA σ s := f
  refine ⟨u0, InM_fr f ?_ ?_ ?_ ?_ u1 c, u2, ?_, SA_MF f⟩
  · unfold SA SQ SLay SRes SRp; omega
  · unfold SA SQ SLay SRes SRp; omega
  · intro k; unfold SA SQ SLay SRes SRp; omega
  · intro k; unfold SA SQ SLay SRes SRp; omega
  · rcases u3 with w | w
    · have w1 : (bx x k).1 = 1000 := w.1
      omega
    · exact ⟨w.2.2.1, w.2.2.2⟩)
theorem bx_I (c : InM σ n t D x) (hp : p < 12) (hk : (lkPg p 0 (x.1 p))[j]? = some k) : (bx x k).2.1 < 12 ∧ hdAn (XF x.1 (bx x k).2.1).2.2.1 (bx x k).2.2.1 (bx x k).2.2.2 := ofA_I (lkPg_g hp (x.1 p) 0 (c.2.1.1 p hp).1 k (List.mem_of_getElem? hk)).1 _ 12 (Nat.le_refl _)
end
section
variable {σ : Hp} {n p j : Nat} {t : Nat → Nat} {D : List DB} {x : DB} {k : Lk}
theorem m_mendN (d : Nat) (c : InM σ n t D x) {a b : Int32} (h : lkB x.1 a b = false) : PI (d + 7) 199 [vr 233 0, vi a, vi b] σ (-1) (fun h => InM h n t D x ∧ Fr MF σ h) := by
  refine PI_of mt_199 (Nat.le_of_ble_eq_true rfl) fun Q hq => ?_
  have k := m_il d c a b
  rw [h] at k
  refine wp_ok (cut := [11]) ma_199 rfl 7 _ _ _ _ ?_
  show CalI true (d + 6) 178 [vr 233 0, vi a, vi b] σ σ.1 (fun x2 s1 => ((¬ x2 = 0 → Sat true (d + 7) 199 σ.1 Q 11 [some (vr 233 0), some (vi a), some (vi b)] [] s1) ∧ (x2 = 0 → (Q (some (vi (-1))) s1 ∧ s1.1 = σ.1))))
  exact cp_i k rfl (fun h1 q1 e1 => b_f' ⟨hq h1 ⟨q1.1, q1.2.2⟩, e1⟩)
set_option maxRecDepth 8000 in
theorem m_mend (d : Nat) (c : InM σ n t D x) (gx : gX x.1) (hp : p < 12) (hk : (lkPg p 0 (x.1 p))[j]? = some k) (v : Int32) (Po : Hp → Prop) (u1 : brB x.1 (XF x.1) x.2.1 k = false → v = (-5) ∧ ∀ h, InM h n t D x → Fr MF σ h → Po h) (u2 : brB x.1 (XF x.1) x.2.1 k = true → 160 < lenX x p k (tgW p (bx x k).2.1 (bx x k).2.2.2) → v = (-4) ∧ ∀ h, InM h n t D x → Fr MF σ h → Po h) (u3 : brB x.1 (XF x.1) x.2.1 k = true → lenX x p k (tgW p (bx x k).2.1 (bx x k).2.2.2) ≤ 160 → v = nI (lenX x p k (tgW p (bx x k).2.1 (bx x k).2.2.2)) ∧ ∀ h, InM h n t (nxD D x) (wrX x p k (tgW p (bx x k).2.1 (bx x k).2.2.2)) → Fr MF σ h → Po h) : PI (d + 10) 199 [vr 233 0, vi (nI p), vi (nI j)] σ v Po := by
  refine PI_of mt_199 (Nat.le_of_ble_eq_true rfl) fun Q hq => ?_
  have il := m_il (d + 3) c (nI p) (nI j)
  rw [(lkB_n c.2.1.1 hp hk).1] at il
  refine wp_ok (cut := []) ma_199 rfl 36 _ _ _ _ ?_
  show CalI true (d + 9) 178 [vr 233 0, vi (nI p), vi (nI j)] σ σ.1 (fun x2 s1 => ((¬ x2 = 0 → CalI true (d + 9) 193 [vr 233 0, vi (nI p), vi (nI j)] s1 σ.1 (fun x4 s3 => ((¬ x4 = 0 → CalV true (d + 9) 192 [vr 233 0, vi (nI p), vi (nI j)] s3 σ.1 (fun s5 => CalV true (d + 9) 196 [vr 233 0, vi (nI p), vi (hI s5 233 0 40), vi (hI s5 233 0 41)] s5 σ.1 (fun s6 => CalI true (d + 9) 197 [vr 233 0, vi (nI p), vi (nI j)] s6 σ.1 (fun x8 s7 => ((¬ x8 = 0 → CalV true (d + 9) 133 [vr 233 0] s7 σ.1 (fun s9 => CalV true (d + 9) 198 [vr 233 0, vi (nI p), vi (nI j)] s9 σ.1 (fun s10 => CalI true (d + 9) 110 [vr 233 0, vi (nI p)] s10 σ.1 (fun x12 s11 => (Q (some (vi x12)) s11 ∧ s11.1 = σ.1))))) ∧ (x8 = 0 → (Q (some (vi (-4))) s7 ∧ s7.1 = σ.1))))))) ∧ (x4 = 0 → (Q (some (vi (-5))) s3 ∧ s3.1 = σ.1))))) ∧ (x2 = 0 → (Q (some (vi (-1))) s1 ∧ s1.1 = σ.1))))
  refine cp_i il rfl (fun h1 q1 e1 => b_t' (cp_i (m_ib d q1.1 hp hk) e1 (fun h2 q2 e2 => brN (fun g => ?_) (fun g => ?_))))
  · refine cp_v (m_lr (d + 3) q2.1 hp hk g) e2 (fun h3 q3 e3 => ?_)
    obtain ⟨b1, b2⟩ := bx_I q3.1 hp hk
    have ga := hdAn_g q3.1.2.1.1 b1 (q3.1.2.1.2.1 _ b1).1 b2
    rw [q3.2.2.1.1, q3.2.2.1.2]
    refine cp_v (m_lt (d + 8) q3.1 q3.2.1 hp b1 b2) e3 (fun h4 q4 e4 => cal_i (m_ft (d + 8) q4.1 q4.2.1 hp hk q4.2.2.1 (tgW_len ga)) e4 (brN (fun g2 => ?_) (fun g2 => ?_)))
    · obtain ⟨v1, v2⟩ := u3 g (of_decide_eq_true g2)
      refine cp_v (m_pd (d + 9) q4.1 q4.2.1 q4.2.2.1) e4 (fun h5 q5 e5 => cp_v (m_wt (d + 8) q5.1 gx q5.2.1 hp hk b1 ga q5.2.2.1 (of_decide_eq_true g2)) e5 (fun h6 q6 e6 => cal_i (m_size (d + 9) h6 hp) e6 ?_))
      rw [q6.2.1, ← v1]
      exact ⟨hq h6 (v2 h6 q6.1 (((((q1.2.2.tr q2.2.2).tr q3.2.2.2).tr q4.2.2.2).tr q5.2.2.2).tr q6.2.2)), e6⟩
    · obtain ⟨v1, v2⟩ := u2 g (by have := of_decide_eq_false g2; omega)
      rw [← v1]
      exact ⟨hq h4 (v2 h4 q4.1 (((q1.2.2.tr q2.2.2).tr q3.2.2.2).tr q4.2.2.2)), e4⟩
  · obtain ⟨v1, v2⟩ := u1 g
    rw [← v1]
    exact ⟨hq h2 (v2 h2 q2.1 (q1.2.2.tr q2.2.2)), e2⟩
theorem m_strN (d : Nat) (c : InM σ n t D x) {a b : Int32} (h : lkB x.1 a b = false) : PI (d + 7) 201 [vr 233 0, vi a, vi b] σ (-1) (fun h => InM h n t D x ∧ Fr MF σ h) := by
  refine PI_of mt_201 (Nat.le_of_ble_eq_true rfl) fun Q hq => ?_
  have k := m_il d c a b
  rw [h] at k
  refine wp_ok (cut := [11]) ma_201 rfl 7 _ _ _ _ ?_
  show CalI true (d + 6) 178 [vr 233 0, vi a, vi b] σ σ.1 (fun x2 s1 => ((¬ x2 = 0 → Sat true (d + 7) 201 σ.1 Q 11 [some (vr 233 0), some (vi a), some (vi b)] [] s1) ∧ (x2 = 0 → (Q (some (vi (-1))) s1 ∧ s1.1 = σ.1))))
  exact cp_i k rfl (fun h1 q1 e1 => b_f' ⟨hq h1 ⟨q1.1, q1.2.2⟩, e1⟩)
set_option maxRecDepth 8000 in
theorem m_str (d : Nat) (c : InM σ n t D x) (gx : gX x.1) (hp : p < 12) (hk : (lkPg p 0 (x.1 p))[j]? = some k) (v : Int32) (Po : Hp → Prop) (u1 : (rx x k).1 ≠ 1 → v = (-5) ∧ ∀ h, InM h n t D x → Fr MF σ h → Po h) (u2 : (rx x k).1 = 1 → 160 < lenX x p k (tgW p (rx x k).2.1.1 (rx x k).2.1.2) → v = (-4) ∧ ∀ h, InM h n t D x → Fr MF σ h → Po h) (u3 : (rx x k).1 = 1 → lenX x p k (tgW p (rx x k).2.1.1 (rx x k).2.1.2) ≤ 160 → v = nI (lenX x p k (tgW p (rx x k).2.1.1 (rx x k).2.1.2)) ∧ ∀ h, InM h n t (nxD D x) (wrX x p k (tgW p (rx x k).2.1.1 (rx x k).2.1.2)) → Fr MF σ h → Po h) : PI (d + 9) 201 [vr 233 0, vi (nI p), vi (nI j)] σ v Po := by
  refine PI_of mt_201 (Nat.le_of_ble_eq_true rfl) fun Q hq => ?_
  have il := m_il (d + 2) c (nI p) (nI j)
  rw [(lkB_n c.2.1.1 hp hk).1] at il
  have rk : (rx x k).1 ≤ 4 := rtRun_k x.1 (XF x.1) x.2.1 (k.1, k.2.1)
  have gl : gPl (k.1, k.2.1) := lkPg_g hp (x.1 p) 0 (c.2.1.1 p hp).1 k (List.mem_of_getElem? hk)
  refine wp_ok (cut := []) ma_201 rfl 40 _ _ _ _ ?_
  show CalI true (d + 8) 178 [vr 233 0, vi (nI p), vi (nI j)] σ σ.1 (fun x2 s1 => ((¬ x2 = 0 → CalV true (d + 8) 177 [vr 233 0, vi (nI p), vi (nI j)] s1 σ.1 (fun s3 => (((hI s3 233 0 36) = (nI 1) → (vp_in ((nI 14) * (hI s3 233 0 35)) 5600 ∧ CalV true (d + 8) 196 [vr 233 0, vi (nI p), vi (hI s3 261 0 (((nI 14) * (hI s3 233 0 35)).toNatClampNeg)), vi (hI s3 233 0 37)] s3 σ.1 (fun s4 => CalI true (d + 8) 197 [vr 233 0, vi (nI p), vi (nI j)] s4 σ.1 (fun x6 s5 => ((¬ x6 = 0 → CalV true (d + 8) 133 [vr 233 0] s5 σ.1 (fun s7 => CalV true (d + 8) 198 [vr 233 0, vi (nI p), vi (nI j)] s7 σ.1 (fun s8 => CalI true (d + 8) 110 [vr 233 0, vi (nI p)] s8 σ.1 (fun x10 s9 => (Q (some (vi x10)) s9 ∧ s9.1 = σ.1))))) ∧ (x6 = 0 → (Q (some (vi (-4))) s5 ∧ s5.1 = σ.1))))))) ∧ (¬ (hI s3 233 0 36) = (nI 1) → (Q (some (vi (-5))) s3 ∧ s3.1 = σ.1))))) ∧ (x2 = 0 → (Q (some (vi (-1))) s1 ∧ s1.1 = σ.1))))
  refine cp_i il rfl (fun h1 q1 e1 => b_t' (cp_v (m_resolve d q1.1.2.1 hp hk) e1 (fun h2 q2 e2 => ?_)))
  obtain ⟨ms2, ld2, ⟨r36, r35, r37, rs1, -, -, -, rl⟩, f2⟩ := q2
  obtain ⟨c2, fm2⟩ := InM_q q1.1 ms2 f2
  have r36 : hI h2 233 0 36 = nI (rx x k).1 := r36
  have r37 : hI h2 233 0 37 = (rx x k).2.2.1 := r37
  have r35 : hI h2 233 0 35 = nI (rx x k).2.2.2.length := r35
  have rl : (rx x k).2.2.2.length ≤ 169 := rl
  have rw0 : hI h2 261 0 (14 * (rx x k).2.2.2.length) = nI (rx x k).2.1.1 := rs1.1.1
  have gr : gPl (rx x k).2.1 := rs1.2
  rw [r36, r35, mulN, ix (by omega), rw0, r37]
  refine br_eq (by omega) (by omega) (fun g => ⟨inb (by omega) (by omega), ?_⟩) (fun g => ?_)
  · have hI1 : hdAn (XF x.1 (rx x k).2.1.1).2.2.1 (rx x k).2.2.1 (rx x k).2.1.2 := rtGo_I 169 [] [] (k.1, k.2.1) (by have : (rtGo x.1 (XF x.1) x.2.1 169 [] [] (k.1, k.2.1)).1 = 1 := g; omega)
    refine cp_v (m_lt (d + 7) c2 ld2 hp gr.1 hI1) e2 (fun h4 q4 e4 => cal_i (m_ft (d + 7) q4.1 q4.2.1 hp hk q4.2.2.1 (tgW_len gr.2)) e4 (brN (fun g2 => ?_) (fun g2 => ?_)))
    · obtain ⟨v1, v2⟩ := u3 g (of_decide_eq_true g2)
      refine cp_v (m_pd (d + 8) q4.1 q4.2.1 q4.2.2.1) e4 (fun h5 q5 e5 => cp_v (m_wt (d + 7) q5.1 gx q5.2.1 hp hk gr.1 gr.2 q5.2.2.1 (of_decide_eq_true g2)) e5 (fun h6 q6 e6 => cal_i (m_size (d + 8) h6 hp) e6 ?_))
      rw [q6.2.1, ← v1]
      exact ⟨hq h6 (v2 h6 q6.1 ((((q1.2.2.tr fm2).tr q4.2.2.2).tr q5.2.2.2).tr q6.2.2)), e6⟩
    · obtain ⟨v1, v2⟩ := u2 g (by have := of_decide_eq_false g2; omega)
      rw [← v1]
      exact ⟨hq h4 (v2 h4 q4.1 ((q1.2.2.tr fm2).tr q4.2.2.2)), e4⟩
  · obtain ⟨v1, v2⟩ := u1 g
    rw [← v1]
    exact ⟨hq h2 (v2 h2 c2 (q1.2.2.tr fm2)), e2⟩
end
theorem op_mend (a b : Int32) : OpOK 88 199 [vi a, vi b] := by
  intro L m n t D x hp
  cases c : lkB x.1 a b with
  | false => exact ⟨(-1), m, n, t, D, x, okM m, fun σ hB k => RI_PI hB (PI_EI (e_mendN 33 k.2.1 c) ⟨k, hp, Fi.rfl' _ _⟩), fun σ k _ => m_mendN 28 k c⟩
  | true =>
    by_cases hg : gP x.1
    · obtain ⟨p, j, k, hp12, e1, e2, hk, -⟩ := lkB_t hg c
      subst e1 e2
      cases hb : brB x.1 (XF x.1) x.2.1 k with
      | false => exact ⟨(-5), m, n, t, D, x, okM m, fun σ hB i => RI_PI hB (PI_mo (e_mendU 31 i hp12 hk hb) fun h f => ⟨InC_q f i, hp, QF_CF f⟩), fun σ i _ => m_mend 25 i hp.1 hp12 hk _ _ (fun _ => ⟨rfl, fun h h1 h2 => ⟨h1, h2⟩⟩) (fun w => by rw [hb] at w; cases w) (fun w => by rw [hb] at w; cases w)⟩
      | true =>
        by_cases hl : lenX x p k (tgW p (bx x k).2.1 (bx x k).2.2.2) ≤ 160
        · exact ⟨_, kpM m D, n, t, nxD D x, wrX x p k (tgW p (bx x k).2.1 (bx x k).2.2.2), kpM_b hp, fun σ hB i => Ev_mo (e_mendY 27 hB i hp.1 hp12 hk hb hl) (fun r s w _ => ⟨w.1, w.2.1, ⟨w.2.2.1, hp.2.1, nxD_u hp⟩, w.2.2.2⟩), fun σ i _ => m_mend 25 i hp.1 hp12 hk _ _ (fun w => by rw [hb] at w; cases w) (fun _ w => by omega) (fun _ _ => ⟨rfl, fun h h1 h2 => ⟨h1, h2⟩⟩)⟩
        · exact ⟨(-4), m, n, t, D, x, okM m, fun σ hB i => RI_PI hB (PI_mo (e_mendT 27 i hp.1 hp12 hk hb (by omega)) fun h f => ⟨f.1, hp, f.2⟩), fun σ i _ => m_mend 25 i hp.1 hp12 hk _ _ (fun w => by rw [hb] at w; cases w) (fun _ _ => ⟨rfl, fun h h1 h2 => ⟨h1, h2⟩⟩) (fun _ w => absurd w hl)⟩
    · exact ⟨0, m, n, t, D, x, okM m, fun σ hB k => absurd (gP_of k.2.1) hg, fun σ k _ => absurd k.2.1.1 hg⟩
theorem op_str (a b : Int32) : OpOK 90 201 [vi a, vi b] := by
  intro L m n t D x hp
  cases c : lkB x.1 a b with
  | false => exact ⟨(-1), m, n, t, D, x, okM m, fun σ hB k => RI_PI hB (PI_EI (e_strN 33 k.2.1 c) ⟨k, hp, Fi.rfl' _ _⟩), fun σ k _ => m_strN 28 k c⟩
  | true =>
    by_cases hg : gP x.1
    · obtain ⟨p, j, k, hp12, e1, e2, hk, -⟩ := lkB_t hg c
      subst e1 e2
      by_cases hb : (rx x k).1 = 1
      · by_cases hl : lenX x p k (tgW p (rx x k).2.1.1 (rx x k).2.1.2) ≤ 160
        · exact ⟨_, kpM m D, n, t, nxD D x, wrX x p k (tgW p (rx x k).2.1.1 (rx x k).2.1.2), kpM_b hp, fun σ hB i => Ev_mo (e_strY 27 hB i hp.1 hp12 hk hb hl) (fun r s w _ => ⟨w.1, w.2.1, ⟨w.2.2.1, hp.2.1, nxD_u hp⟩, w.2.2.2⟩), fun σ i _ => m_str 26 i hp.1 hp12 hk _ _ (fun w => absurd hb w) (fun _ w => by omega) (fun _ _ => ⟨rfl, fun h h1 h2 => ⟨h1, h2⟩⟩)⟩
        · exact ⟨(-4), m, n, t, D, x, okM m, fun σ hB i => RI_PI hB (PI_mo (e_strT 27 i hp12 hk hb (by omega)) fun h f => ⟨f.1, hp, f.2⟩), fun σ i _ => m_str 26 i hp.1 hp12 hk _ _ (fun w => absurd hb w) (fun _ _ => ⟨rfl, fun h h1 h2 => ⟨h1, h2⟩⟩) (fun _ w => absurd w hl)⟩
      · exact ⟨(-5), m, n, t, D, x, okM m, fun σ hB i => RI_PI hB (PI_mo (e_strU 32 i hp12 hk hb) fun h f => ⟨InC_q f i, hp, QF_CF f⟩), fun σ i _ => m_str 26 i hp.1 hp12 hk _ _ (fun _ => ⟨rfl, fun h h1 h2 => ⟨h1, h2⟩⟩) (fun w => absurd w hb) (fun w => absurd w hb)⟩
    · exact ⟨0, m, n, t, D, x, okM m, fun σ hB k => absurd (gP_of k.2.1) hg, fun σ k _ => absurd k.2.1.1 hg⟩
