/-! calls: unredirect, remove -/
theorem InC_keep {σ h : Hp} {m m' n : Nat} {t : Nat → Nat} {D D' : List DB} {x : DB} (k : InC σ m n t D x) (q : KpP σ m' D' x h) : InC h m' n t D' x := by
  obtain ⟨q1, q2, q3, q4⟩ := q
  refine ⟨PdC_eq (q4 1 (by omega)) (q3 2 0 (fun w => by unfold SKp at w; omega)).1 k.1, ⟨q2.1, fun p hp => ?_, fun p hp => ?_, q2.2.1, q2.2.2⟩, q1⟩
  · exact OutC_fr (h := asIn σ h) q3.fr (fun g a b w => by unfold SKp at w; omega) (k.2.1.2.1 p hp)
  · exact ExC_cong (fun f a b => q3 f p (fun w => by unfold SKp at w; omega)) (k.2.1.2.2.1 p hp)
theorem SKp_CF {σ h : Hp} (f : Fi SKp σ h) : Fi CF σ h := f.mo fun g i w => by unfold SKp at w; unfold CF; omega
section
variable {σ h : Hp} {P : Nat → List Line} {X : Nat → XA} {rs rs' : List (Pl × Pl)} {es es' : List En}
theorem CS_rd (r : RdsC h 0 rs') (k2 : ∀ k, k ≠ 2 → hI h 8 0 k = hI σ 8 0 k) (f : Fr SRd σ h) (cs : CS σ P X rs es) : CS h P X rs' es := by
  have f2 : ∀ g i, (i = 0 → g ≠ 8 ∧ ¬ (11 ≤ g ∧ g ≤ 14)) → hI h g i = hI σ g i ∧ hL h g i = hL σ g i := fun g i w => by
    have := f.2 g i (fun u => by unfold SRd at u; have := w u.1; omega)
    exact ⟨this.1, this.2.1⟩
  refine ⟨fun p hp => SrcC_fr f (fun w => by unfold SRd at w; omega) (fun w => by unfold SRd at w; omega) (cs.1 p hp), fun p hp => OutC_fr f (fun g a b w => by unfold SRd at w; omega) (cs.2.1 p hp), fun p hp => ExC_cong (fun g a b => f2 g p (fun _ => by omega)) (cs.2.2.1 p hp), r, ?_⟩
  obtain ⟨r1, r2, r3⟩ := cs.2.2.2.2
  exact ⟨by rw [k2 7 (by omega)]; exact r1, r2, All_mo r3 fun j y _ w => ⟨by rw [(f2 15 0 (fun _ => by omega)).1]; exact w.1, by rw [(f2 16 0 (fun _ => by omega)).2]; exact w.2.1, by rw [(f2 17 0 (fun _ => by omega)).1]; exact w.2.2.1, w.2.2.2⟩⟩
theorem CS_en (r : EnsC h 0 es') (k7 : ∀ k, k ≠ 7 → hI h 8 0 k = hI σ 8 0 k) (f : Fr SEn σ h) (cs : CS σ P X rs es) : CS h P X rs es' := by
  have f2 : ∀ g i, (i = 0 → g ≠ 8 ∧ ¬ (15 ≤ g ∧ g ≤ 17)) → hI h g i = hI σ g i ∧ hL h g i = hL σ g i := fun g i w => by
    have := f.2 g i (fun u => by unfold SEn at u; have := w u.1; omega)
    exact ⟨this.1, this.2.1⟩
  refine ⟨fun p hp => SrcC_fr f (fun w => by unfold SEn at w; omega) (fun w => by unfold SEn at w; omega) (cs.1 p hp), fun p hp => OutC_fr f (fun g a b w => by unfold SEn at w; omega) (cs.2.1 p hp), fun p hp => ExC_cong (fun g a b => f2 g p (fun _ => by omega)) (cs.2.2.1 p hp), ?_, r⟩
  obtain ⟨r1, r2, r3⟩ := cs.2.2.2.1
  exact ⟨by rw [k7 2 (by omega)]; exact r1, r2, All_mo r3 fun j y _ w => ⟨by rw [(f2 11 0 (fun _ => by omega)).1]; exact w.1, by rw [(f2 12 0 (fun _ => by omega)).2]; exact w.2.1, by rw [(f2 13 0 (fun _ => by omega)).1]; exact w.2.2.1, by rw [(f2 14 0 (fun _ => by omega)).2]; exact w.2.2.2.1, w.2.2.2.2⟩⟩
end
/-- the State in use changes, the others and the pad don't -/
theorem InC_now {S : Nat → Nat → Prop} {σ h : Hp} {m n : Nat} {t : Nat → Nat} {D : List DB} {x x' : DB} (f : Fr S σ h) (ns : ∀ g i, S g i → (8 ≤ g ∧ g ≤ 17 ∧ i = 0) ∨ (4 ≤ g ∧ g ≤ 7) ∨ (18 ≤ g ∧ g ≤ 232)) (cs : CS h x'.1 (XF x'.1) x'.2.1 x'.2.2) (k : InC σ m n t D x) : InC h m n t D x' :=
  ⟨PdC_eq (congrFun (f.2 1 0 (fun w => by have := ns _ _ w; omega)).1 1) (f.2 2 0 (fun w => by have := ns _ _ w; omega)).1 k.1, cs, HiC_eq (congrFun (f.2 1 0 (fun w => by have := ns _ _ w; omega)).1 7) (f.2 3 0 (fun w => by have := ns _ _ w; omega)).2.2 (fun j y hj w => DBC_fr f (fun g a b u => by have := ns _ _ u; omega) w) k.2.2⟩
def nxD (D : List DB) (x : DB) : List DB := capD D ++ [x]
theorem nxD_u {D : List DB} {x : DB} (h : InP D x) : DuP (nxD D x) := by
  refine ⟨by unfold nxD; rw [List.length_append]; have := capD_len h.2.2.1; show (capD D).length + 1 ≤ 10; omega, fun y hy => ?_⟩
  rcases List.mem_append.mp hy with w | w
  · refine h.2.2.2 y ?_
    unfold capD at w
    split at w
    · exact List.mem_of_mem_drop w
    · exact w
  · cases w with
    | head => exact h.2.1
    | tail _ u => cases u
theorem e_unredirectN (d : Nat) {σ : Hp} {P : Nat → List Line} {X : Nat → XA} {rs : List (Pl × Pl)} {es : List En} (cs : CS σ P X rs es) {a : Int32} (h : rngI a rs.length = false) : EI (d + 1) 81 [vr 1 0, vi a] σ (-1) σ := by
  refine EI_of mt_81 (Nat.le_of_ble_eq_true rfl) fun Q hq => ?_
  have k := e_isRedirect d cs a
  rw [h] at k
  refine wp_ok (cut := []) ma_81 rfl 16 _ _ _ _ ?_
  show CalI true d 96 [vr 1 0, vi a] σ σ.1 (fun x2 s1 => ((¬ x2 = 0 → CalV true d 106 [vr 1 0] s1 σ.1 (fun s3 => CalV true d 64 [vr 8 0, vi a] s3 σ.1 (fun s4 => (Q (some (vi (hI s4 8 0 2))) s4 ∧ s4.1 = σ.1)))) ∧ (x2 = 0 → (Q (some (vi (-1))) s1 ∧ s1.1 = σ.1))))
  exact cal_i k rfl (b_f' ⟨hq, rfl⟩)
theorem e_unredirectY (d : Nat) {σ : Hp} {m n L r : Nat} {t : Nat → Nat} {D : List DB} {x : DB} (hB : σ.1 = Bm m L) (k : InC σ m n t D x) (hr : r < x.2.1.length) : RI (d + 3) 81 [vr 1 0, vi (nI r)] σ (Bm (kpM m D) L) (nI (x.2.1.length - 1)) (fun h => InC h (kpM m D) n t (nxD D x) (x.1, x.2.1.eraseIdx r, x.2.2) ∧ Fi CF σ h) := by
  have hB' : leB σ.1 (Bm (kpM m D) L) := by rw [hB]; exact Bm_le L (kpM_ge m D)
  refine RI_of mt_81 (Nat.le_of_ble_eq_true rfl) hB' fun Q hq => ?_
  have h12 := k.2.1.2.2.2.1.2.1
  have ir := e_isRedirect (d + 2) k.2.1 (nI r)
  rw [rngI_n hr (by omega)] at ir
  refine wp_ok (cut := []) ma_81 rfl 16 _ _ _ _ ?_
  show CalI true (d + 2) 96 [vr 1 0, vi (nI r)] σ (Bm (kpM m D) L) (fun x2 s1 => ((¬ x2 = 0 → CalV true (d + 2) 106 [vr 1 0] s1 (Bm (kpM m D) L) (fun s3 => CalV true (d + 2) 64 [vr 8 0, vi (nI r)] s3 (Bm (kpM m D) L) (fun s4 => (Q (some (vi (hI s4 8 0 2))) s4 ∧ s4.1 = Bm (kpM m D) L)))) ∧ (x2 = 0 → (Q (some (vi (-1))) s1 ∧ s1.1 = Bm (kpM m D) L))))
  refine dl_i ir hB' (b_t' (cr_v (e_keepState d k.2.2 hB (DBC_of k.2.1)) (leB.rfl' _) (fun h1 k1 e1 => ?_)))
  have c1 := InC_keep k k1
  refine dp_v (e_dropRedirect (d + 1) c1.2.1.2.2.2.1 hr) (by rw [e1]; exact leB.rfl' _) (fun h2 k2 e2 => ?_)
  obtain ⟨a1, a2, a3⟩ := k2
  rw [a1.1, er_len hr]
  refine ⟨hq h2 ⟨InC_now a3 (fun g i w => by unfold SRd at w; omega) (CS_rd a1 a2 a3 c1.2.1) c1, (SKp_CF k1.2.2.1).tr (Fr_CF a3 fun g i w => by unfold SRd at w; omega)⟩, e2.trans e1⟩
theorem TrM_mv {h h' : Hp} {j i : Nat} {y : Pl × Pl} (e : ∀ k, k < 28 → hI h' 235 0 (1932 + 28 * j + k) = hI h 235 0 (1932 + 28 * i + k)) (q : TrM h i y) : TrM h' j y := by
  obtain ⟨q1, q2, q3⟩ := q
  refine ⟨RowP_mv ((e 0 (by omega)).trans q1.1) (fun k _ hk => e k (by omega)) q1, RowP_mv ((e 14 (by omega)).trans q2.1) (fun k _ hk => ?_) q2, q3⟩
  have := e (14 + k) (by omega)
  rw [show 1932 + 28 * j + 14 + k = 1932 + 28 * j + (14 + k) by omega, this, show 1932 + 28 * i + (14 + k) = 1932 + 28 * i + 14 + k by omega]
def STu (f k : Nat) : Prop := f = 235 ∧ 1932 ≤ k ∧ k ≤ 2268
theorem MS_tu {σ h : Hp} {P : Nat → List Line} {X : Nat → XA} {rs rs' : List (Pl × Pl)} {es : List En} (f : FrM STu σ h) (tr : TrsM h rs') (ms : MS σ P X rs es) : MS h P X rs' es := by
  obtain ⟨k1, k2, k3, ⟨b, b1, b2⟩, k5, k6⟩ := ms
  have e : ∀ i, (i < 1932 ∨ 2268 < i) → hI h 235 0 i = hI σ 235 0 i := fun i hi => f.2.2.2 235 0 i (fun w => by have := w.2; unfold STu at this; omega)
  refine ⟨k1, k2, fun p hp => ?_, ⟨b, (f.2.2.2 233 0 5 (fun w => by have := w.2; unfold STu at this; omega)).trans b1, fun w p hp => LaidP_cong k1 hp (fun g i r => f.2.2.2 g 0 i (fun u => by have := u.2; unfold STu at this; unfold Reg at r; omega)) (b2 w p hp)⟩, tr, ?_, k6.2.1, fun j y hy => ?_⟩
  · obtain ⟨s1, s2, s3, s4⟩ := k3 p hp
    exact ⟨s1, s2, by rw [e _ (by omega)]; exact s3, Tx_cong s4 fun i a b => e i (by omega)⟩
  · rw [e _ (by omega)]; exact k6.1
  · exact EnM_mv (fun i hi => e _ (by omega)) (k6.2.2 j y hy)
theorem MS_pd {σ h : Hp} {P : Nat → List Line} {X : Nat → XA} {rs : List (Pl × Pl)} {es : List En} (f : FrM SPd σ h) (ms : MS σ P X rs es) : MS h P X rs es := MS_eq (f.2.2.2 233 0 5 (fun w => by have := w.2; unfold SPd at this; omega)) (f.fam (fun k w => by unfold SPd at w; omega) 0) (fun g hg => f.fam (fun k w => by unfold SPd at w; omega) 0) ms
theorem InM_keep {σ h : Hp} {n : Nat} {t : Nat → Nat} {D : List DB} {x : DB} (k : InM σ n t D x) (q1 : HiM h (nxD D x)) (q2 : FrM SPd σ h) : InM h n t (nxD D x) x := ⟨PadM_eq (q2.2.2.2 233 0 1 (fun w => by have := w.2; unfold SPd at this; omega)) (q2.fam (fun k w => by unfold SPd at w; omega) 0) k.1, MS_pd q2 k.2.1, q1⟩
theorem SPd_MF {σ h : Hp} (f : FrM SPd σ h) : Fr MF σ h := fm_fr f fun g i w => by unfold SPd at w; omega
theorem m_unredirectN (d : Nat) {σ : Hp} {rs : List (Pl × Pl)} (tr : TrsM σ rs) {a : Int32} (h : rngI a rs.length = false) : EI (d + 2) 170 [vr 233 0, vi a] σ (-1) σ := by
  refine EI_of mt_170 (Nat.le_of_ble_eq_true rfl) fun Q hq => ?_
  have k := m_isTurn d tr a
  rw [h] at k
  refine wp_ok (cut := [22]) ma_170 rfl 12 _ _ _ _ ?_
  show CalI true (d + 1) 169 [vr 233 0, vi a] σ σ.1 (fun x2 s1 => ((¬ x2 = 0 → CalV true (d + 1) 133 [vr 233 0] s1 σ.1 (fun s3 => CalI true (d + 1) 165 [vr 233 0, vi (a + (nI 1))] s3 σ.1 (fun x5 s4 => Sat true (d + 2) 170 σ.1 Q 22 [some (vr 233 0), some (vi a), some (vi x5)] [] s4))) ∧ (x2 = 0 → (Q (some (vi (-1))) s1 ∧ s1.1 = σ.1))))
  exact cal_i k rfl (b_f' ⟨hq, rfl⟩)
set_option maxRecDepth 6000 in
theorem m_unredirectY (d : Nat) {σ : Hp} {n r : Nat} {t : Nat → Nat} {D : List DB} {x : DB} (k : InM σ n t D x) (hr : r < x.2.1.length) : PI (d + 2) 170 [vr 233 0, vi (nI r)] σ (nI (x.2.1.length - 1)) (fun h => InM h n t (nxD D x) (x.1, x.2.1.eraseIdx r, x.2.2) ∧ Fr MF σ h) := by
  refine PI_of mt_170 (Nat.le_of_ble_eq_true rfl) fun Q hq => ?_
  have tr := k.2.1.2.2.2.2.1
  have h12 := tr.2.1
  have ir := m_isTurn d tr (nI r)
  rw [rngI_n hr (by omega)] at ir
  refine wp_ok (cut := [22]) ma_170 rfl 12 _ _ _ _ ?_
  show CalI true (d + 1) 169 [vr 233 0, vi (nI r)] σ σ.1 (fun x2 s1 => ((¬ x2 = 0 → CalV true (d + 1) 133 [vr 233 0] s1 σ.1 (fun s3 => CalI true (d + 1) 165 [vr 233 0, vi ((nI r) + (nI 1))] s3 σ.1 (fun x5 s4 => Sat true (d + 2) 170 σ.1 Q 22 [some (vr 233 0), some (vi (nI r)), some (vi x5)] [] s4))) ∧ (x2 = 0 → (Q (some (vi (-1))) s1 ∧ s1.1 = σ.1))))
  refine cal_i ir rfl (b_t' (cp_v (m_putDown (d + 1) k.2.2 (DBM_of k.2.1)) rfl (fun h1 q1 e1 => ?_)))
  have c1 := InM_keep k q1.1 q1.2
  have f1 := SPd_MF q1.2
  rw [addN]
  refine cal_i (m_turnAt (d + 1) h1 (r + 1)) e1 ?_
  obtain ⟨r1, r2, r3⟩ := c1.2.1.2.2.2.2.1
  have loop : ∀ (w i : Nat) (h : Hp), i + w = 1932 + 28 * x.2.1.length → 1932 + 28 * (r + 1) ≤ i → FrM STu h1 h → hI h 235 0 2268 = nI x.2.1.length → (∀ j, j < 1932 + 28 * r → hI h 235 0 j = hI h1 235 0 j) → (∀ j, 1932 + 28 * r ≤ j → j + 28 < i → hI h 235 0 j = hI h1 235 0 (j + 28)) → (∀ j, i ≤ j + 28 → j < 2268 → hI h 235 0 j = hI h1 235 0 j) → Sat true (d + 2) 170 σ.1 Q 22 [some (vr 233 0), some (vi (nI r)), some (vi (nI i))] [] h := by
    intro w
    induction w with
    | zero =>
      intro i h hi hi2 f z a1 a2 a3
      have hi : i = 1932 + 28 * x.2.1.length := hi
      have hB : h.1 = σ.1 := f.1.trans e1
      have i1 : vp_in (nI 2268) 2830 := inb (by omega) (by omega)
      refine wp_ok (cut := [22]) ma_170 rfl 18 _ _ _ _ ?_
      show CalI true (d + 1) 166 [vr 233 0] h σ.1 (fun x2 s1 => CalI true (d + 1) 165 [vr 233 0, vi x2] s1 σ.1 (fun x4 s3 => ((x4 ≤ (nI i) → (vp_in (nI 2268) 2830 ∧ (vp_in (nI 2268) 2830 ∧ CalI true (d + 1) 166 [vr 233 0] (setI s3 235 0 2268 ((hI s3 235 0 2268) - (nI 1))) σ.1 (fun x6 s5 => (Q (some (vi x6)) s5 ∧ s5.1 = σ.1))))) ∧ (¬ x4 ≤ (nI i) → (vp_in (nI i) 2830 ∧ (vp_in ((nI i) - (nI 28)) 2830 ∧ Sat true (d + 2) 170 σ.1 Q 22 [some (vr 233 0), some (vi (nI r)), some (vi ((nI i) + nI 1))] [] (setI s3 235 0 (((nI i) - (nI 28)).toNatClampNeg) (hI s3 235 0 ((nI i).toNatClampNeg)))))))))
      refine cal_i (m_turns (d + 1) z) hB (cal_i (m_turnAt (d + 1) h _) hB ?_)
      rw [z, subN (a := x.2.1.length) (b := 1) (by omega)]
      have f2 : FrM STu h1 (setI h 235 0 2268 (nI (x.2.1.length - 1))) := f.sI (f := 235) ⟨rfl, by omega, by omega⟩ _
      have z2 : hI (setI h 235 0 2268 (nI (x.2.1.length - 1))) 235 0 2268 = nI (x.2.1.length - 1) := hI_s _ _ _ _ _
      refine br_le (by omega) (by omega) (fun _ => ⟨i1, i1, cal_i (m_turns (d + 1) z2) hB ⟨hq _ ⟨?_, ?_⟩, hB⟩⟩) (fun g => by omega)
      · refine InM_fr f2 (by unfold STu; omega) (by unfold STu; omega) (fun j w => by unfold STu at w; omega) (fun j w => by unfold STu at w; omega) (MS_tu f2 ⟨?_, ?_, fun j y hy => ?_⟩ c1.2.1) c1
        · rw [z2, er_len hr]
        · rw [er_len hr]
          omega
        · have hjl := All_lt hy
          rw [er_len hr] at hjl
          rcases er_at hr hy with ⟨c, u⟩ | ⟨c, u⟩
          · exact TrM_mv (fun k hk => by rw [hI_k _ _ _ _ (by omega), a1 _ (by omega)]) (r3 j y u)
          · exact TrM_mv (fun k hk => by rw [hI_k _ _ _ _ (by omega), a2 _ (by omega) (by omega), show 1932 + 28 * j + k + 28 = 1932 + 28 * (j + 1) + k by omega]) (r3 (j + 1) y u)
      · exact f1.tr (fm_fr f2 fun g i w => by unfold STu at w; omega)
    | succ w ih =>
      intro i h hi hi2 f z a1 a2 a3
      have hB : h.1 = σ.1 := f.1.trans e1
      refine wp_ok (cut := [22]) ma_170 rfl 18 _ _ _ _ ?_
      show CalI true (d + 1) 166 [vr 233 0] h σ.1 (fun x2 s1 => CalI true (d + 1) 165 [vr 233 0, vi x2] s1 σ.1 (fun x4 s3 => ((x4 ≤ (nI i) → (vp_in (nI 2268) 2830 ∧ (vp_in (nI 2268) 2830 ∧ CalI true (d + 1) 166 [vr 233 0] (setI s3 235 0 2268 ((hI s3 235 0 2268) - (nI 1))) σ.1 (fun x6 s5 => (Q (some (vi x6)) s5 ∧ s5.1 = σ.1))))) ∧ (¬ x4 ≤ (nI i) → (vp_in (nI i) 2830 ∧ (vp_in ((nI i) - (nI 28)) 2830 ∧ Sat true (d + 2) 170 σ.1 Q 22 [some (vr 233 0), some (vi (nI r)), some (vi ((nI i) + nI 1))] [] (setI s3 235 0 (((nI i) - (nI 28)).toNatClampNeg) (hI s3 235 0 ((nI i).toNatClampNeg)))))))))
      refine cal_i (m_turns (d + 1) z) hB (cal_i (m_turnAt (d + 1) h _) hB ?_)
      rw [subN (a := i) (b := 28) (by omega), addN, ix (by omega), ix (by omega)]
      refine br_le (by omega) (by omega) (fun g => by omega) (fun _ => ⟨inb (by omega) (by omega), inb (by omega) (by omega), ih (i + 1) _ (by omega) (by omega) (f.sI (f := 235) ⟨rfl, by omega, by omega⟩ _) ?_ (fun j h1 => ?_) (fun j h1 h2 => ?_) (fun j h1 h2 => ?_)⟩)
      · rw [hI_k _ _ _ _ (by omega)]
        exact z
      · rw [hI_k _ _ _ _ (by omega)]
        exact a1 j h1
      · by_cases c : j = i - 28
        · rw [c, hI_s, a3 i (by omega) (by omega), show i - 28 + 28 = i by omega]
        · rw [hI_k _ _ _ _ c]
          exact a2 j h1 (by omega)
      · rw [hI_k _ _ _ _ (by omega)]
        exact a3 j (by omega) h2
  exact loop (28 * x.2.1.length - 28 * (r + 1)) _ h1 (by omega) (by omega) (FrM.rfl' _ _) r1 (fun _ _ => rfl) (fun j h1 h2 => by omega) (fun _ _ _ => rfl)
theorem op_unredirect (a : Int32) : OpOK 81 170 [vi a] := by
  intro L m n t D x hp
  cases c : rngI a x.2.1.length with
  | false => exact ⟨(-1), m, n, t, D, x, okM m, fun σ hB k => RI_PI hB (PI_EI (e_unredirectN 34 k.2.1 c) ⟨k, hp, Fi.rfl' _ _⟩), fun σ k _ => PI_EI (m_unredirectN 33 k.2.1.2.2.2.2.1 c) ⟨k, Fr.rfl' _ _⟩⟩
  | true =>
    have : x.2.1.length < 2147483648 ∨ ¬ x.2.1.length < 2147483648 := Classical.em _
    rcases this with hl | hl
    · obtain ⟨r, hr, e⟩ := rngI_t hl c
      subst e
      exact ⟨nI (x.2.1.length - 1), kpM m D, n, t, nxD D x, (x.1, x.2.1.eraseIdx r, x.2.2), kpM_b hp, fun σ hB k => Ev_mo (e_unredirectY 32 hB k hr) (fun r s q _ => ⟨q.1, q.2.1, ⟨hp.1, hp.2.1, nxD_u hp⟩, q.2.2⟩), fun σ k _ => m_unredirectY 33 k hr⟩
    · exact ⟨0, m, n, t, D, x, okM m, fun σ hB k => absurd (show x.2.1.length < 2147483648 by have := k.2.1.2.2.2.1.2.1; omega) hl, fun σ k _ => absurd (show x.2.1.length < 2147483648 by have := k.2.1.2.2.2.2.1.2.1; omega) hl⟩
