/-! calls: redirect, both sides -/
theorem e_redirectF (d : Nat) {σ : Hp} {n : Nat} {t : Nat → Nat} (pd : PdC σ n t) (hf : redF t n ≠ none) : PI (d + 5) 80 [vr 1 0] σ (-3) (fun h => Fr (fun f _ => f = 5) σ h) := by
  refine PI_of mt_80 (Nat.le_of_ble_eq_true rfl) fun Q hq => ?_
  refine wp_ok (cut := [23]) ma_80 rfl 11 _ _ _ _ ?_
  show CalI true (d + 4) 30 [vr 5 0, vr 2 0, vi (hI σ 1 0 1)] σ σ.1 (fun x2 s1 => ((x2 = (-6) → Sat true (d + 5) 80 σ.1 Q 23 [some (vr 1 0), none, none, none, none, none, none, none] [] s1) ∧ (¬ x2 = (-6) → (Q (some (vi (-3))) s1 ∧ s1.1 = σ.1))))
  rw [pd.2]
  refine cp_i (e_redirectFault d pd.1) rfl (fun h1 q1 e1 => ?_)
  obtain ⟨a, ea⟩ := q1
  exact ⟨fun g => absurd ((redF_6 pd.1.1).mp g) hf, fun _ => ⟨hq h1 (by rw [ea]; exact rh_fr σ n a), e1⟩⟩
set_option maxRecDepth 8000 in
/-- up to the test of the number -/
theorem s_red (d : Nat) {σ : Hp} {m n p q : Nat} {t : Nat → Nat} {D : List DB} {x : DB} {a b : Option Anc} {B : Nat × Nat × Nat} {Q : Option AV → Hp → Prop} (hB : leB σ.1 B) (k : InC σ m n t D x) (hf : redF t n = none) (hp : p < 12) (hq12 : q < 12) (ga : gAO a) (gb : gAO b) (hs : sg t 0 n = txLink (some p) a ++ 62 :: txLink (some q) b) (k1 : ¬ badR (p, a) (q, b) x.2.1 → ∀ h0, h0.1 = σ.1 → Fr (fun f _ => f = 5) σ h0 → Sat true (d + 5) 80 B Q 110 [some (vr 1 0), some (vi (nI (txLink (some p) a).length)), some (vi (nI p)), some (vl (lN (anO a))), none, some (vi (nI q)), some (vl (lN (anO b))), none] [] h0) (k2 : badR (p, a) (q, b) x.2.1 → ∀ h0, h0.1 = σ.1 → Fr (fun f _ => f = 5) σ h0 → Q (some (vi (-5))) h0 ∧ h0.1 = B) : Sat true (d + 5) 80 B Q 0 [some (vr 1 0), none, none, none, none, none, none, none] [] σ := by
  have n160 := k.1.1.1
  have hln : (sg t 0 n).length = n := sg_len t n 0
  have hn : n = (txLink (some p) a).length + 1 + (txLink (some q) b).length := by
    rw [hs, List.length_append, List.length_cons] at hln
    omega
  have l1 : (txLink (some p) a).length = 1 + (txOpt a).length := by unfold txLink; rw [List.length_append]; rfl
  have l2 : (txLink (some q) b).length = 1 + (txOpt b).length := by unfold txLink; rw [List.length_append]; rfl
  refine wp_ok (cut := [110]) ma_80 rfl 60 _ _ _ _ ?_
  show CalI true (d + 4) 30 [vr 5 0, vr 2 0, vi (hI σ 1 0 1)] σ B (fun x2 s1 => ((x2 = (-6) → CalI true (d + 4) 99 [vr 1 0] s1 B (fun x4 s3 => (vp_in (nI 0) 160 ∧ CalL true (d + 4) 3 [vr 2 0, vi (nI 0), vi x4] s3 B (fun x6 s5 => (vp_in (x4 + (nI 1)) 160 ∧ CalL true (d + 4) 3 [vr 2 0, vi (x4 + (nI 1)), vi (hI s5 1 0 1)] s5 B (fun x8 s7 => CalI true (d + 4) 62 [vr 8 0, vi ((hI s3 2 0 0) - (nI 65)), vl x6] s7 B (fun x10 s9 => ((¬ x10 = (-6) → (Q (some (vi (-5))) s9 ∧ s9.1 = B)) ∧ (x10 = (-6) → ((¬ ((hI s3 2 0 0) - (nI 65)) = ((hI s5 2 0 ((x4 + (nI 1)).toNatClampNeg)) - (nI 65)) → Sat true (d + 5) 80 B Q 110 [some (vr 1 0), some (vi x4), some (vi ((hI s3 2 0 0) - (nI 65))), some (vl x6), none, some (vi ((hI s5 2 0 ((x4 + (nI 1)).toNatClampNeg)) - (nI 65))), some (vl x8), none] [] s9) ∧ (((hI s3 2 0 0) - (nI 65)) = ((hI s5 2 0 ((x4 + (nI 1)).toNatClampNeg)) - (nI 65)) → ((¬ (lg_cmp x6 x8) = 0 → Sat true (d + 5) 80 B Q 110 [some (vr 1 0), some (vi x4), some (vi ((hI s3 2 0 0) - (nI 65))), some (vl x6), none, some (vi ((hI s5 2 0 ((x4 + (nI 1)).toNatClampNeg)) - (nI 65))), some (vl x8), none] [] s9) ∧ ((lg_cmp x6 x8) = 0 → (Q (some (vi (-5))) s9 ∧ s9.1 = B)))))))))))))) ∧ (¬ x2 = (-6) → (Q (some (vi (-3))) s1 ∧ s1.1 = B))))
  rw [k.1.2]
  refine dp_i (e_redirectFault d k.1.1) hB (fun h0 q0 e0 => ?_)
  obtain ⟨at_, ea⟩ := q0
  have f0 : Fr (fun f _ => f = 5) σ h0 := by rw [ea]; exact rh_fr σ n at_
  have c0 := InC_5 f0 k
  have hB0 : leB h0.1 B := by rw [e0]; exact hB
  have ht : Tx (hI h0 2 0) 0 (txLink (some p) a ++ 62 :: txLink (some q) b) := by
    rw [← hs]
    exact Tx_sg (fun i hi => by rw [Nat.zero_add]; exact (c0.1.1.2 i hi).1)
  have t1 := (Tx_app.mp ht).1
  have t2 : Tx (hI h0 2 0) ((txLink (some p) a).length + 1) (txLink (some q) b) := by
    have := (Tx_app.mp ht).2.2
    rw [Nat.zero_add] at this
    exact this
  have b0 : hI h0 2 0 0 = nI (65 + p) := t1.1
  have b1 : hI h0 2 0 ((txLink (some p) a).length + 1) = nI (65 + q) := t2.1
  refine ⟨fun _ => ?_, fun g => absurd ((redF_6 n160).mpr hf) g⟩
  refine dl_i (e_arrow (d + 4) ht (txLink_62 (fun x hx => by cases hx; exact hp) ga) hn (by omega) n160 c0.1.2) hB0 ?_
  rw [b0, subN (a := 65 + p) (b := 65) (by omega), Nat.add_sub_cancel_left]
  refine ⟨inb (by omega) (by omega), dl_l (e_placeAnchor2 (d + 2) (l := some p) (fun x hx => by cases hx; exact hp) ga t1 (by omega) (by omega)) hB0 ?_⟩
  rw [addN, ix (by omega), b1, subN (a := 65 + q) (b := 65) (by omega), Nat.add_sub_cancel_left, c0.1.2]
  refine ⟨inb (by omega) (by omega), dl_l (e_placeAnchor2 (d + 2) (l := some q) (fun x hx => by cases hx; exact hq12) gb t2 (by omega) (by omega)) hB0 ?_⟩
  have rf := e_redirectFrom (d + 4) (x := (p, a)) c0.2.1.2.2.2.1 ⟨hp, ga⟩
  have l12 := c0.2.1.2.2.2.1.2.1
  refine dl_i rf hB0 ?_
  rw [rdF_6 l12, lg_cmp_eq, lO_inj ga gb]
  refine ⟨fun g => k2 (Or.inl g) h0 e0 f0, fun g => br_ne (by omega) (by omega) (fun g2 => k1 (fun w => w.elim (fun u => u g) (fun u => g2 (congrArg Prod.fst u))) h0 e0 f0) (fun g2 => ⟨fun g3 => k1 (fun w => w.elim (fun u => u g) (fun u => g3 (congrArg Prod.snd u))) h0 e0 f0, fun g3 => k2 (Or.inr (Prod.ext g2 g3)) h0 e0 f0⟩)⟩
section
variable {σ : Hp} {m n L p q : Nat} {t : Nat → Nat} {D : List DB} {x : DB} {a b : Option Anc}
theorem e_redirectB (d : Nat) (k : InC σ m n t D x) (hf : redF t n = none) (hp : p < 12) (hq12 : q < 12) (ga : gAO a) (gb : gAO b) (hs : sg t 0 n = txLink (some p) a ++ 62 :: txLink (some q) b) (hb : badR (p, a) (q, b) x.2.1) : PI (d + 5) 80 [vr 1 0] σ (-5) (fun h => Fr (fun f _ => f = 5) σ h) := PI_of mt_80 (Nat.le_of_ble_eq_true rfl) fun Q hq => s_red d (leB.rfl' _) k hf hp hq12 ga gb hs (fun w => absurd hb w) (fun _ h0 e0 f0 => ⟨hq h0 f0, e0⟩)
theorem e_redirectT (d : Nat) (k : InC σ m n t D x) (hf : redF t n = none) (hp : p < 12) (hq12 : q < 12) (ga : gAO a) (gb : gAO b) (hs : sg t 0 n = txLink (some p) a ++ 62 :: txLink (some q) b) (hb : ¬ badR (p, a) (q, b) x.2.1) (h12 : x.2.1.length = 12) : PI (d + 5) 80 [vr 1 0] σ (-4) (fun h => Fr (fun f _ => f = 5) σ h) := by
  refine PI_of mt_80 (Nat.le_of_ble_eq_true rfl) fun Q hq => s_red d (leB.rfl' _) k hf hp hq12 ga gb hs (fun _ h0 e0 f0 => ?_) (fun w => absurd w hb)
  have e2 : hI h0 8 0 2 = nI x.2.1.length := by rw [(f0.2 8 0 (by omega)).1]; exact k.2.1.2.2.2.1.1
  refine wp_ok (cut := [128]) ma_80 rfl 8 _ _ _ _ ?_
  show (((hI h0 8 0 2) < (nI 12) → Sat true (d + 5) 80 σ.1 Q 128 [some (vr 1 0), some (vi (nI (txLink (some p) a).length)), some (vi (nI p)), some (vl (lN (anO a))), none, some (vi (nI q)), some (vl (lN (anO b))), none] [] h0) ∧ (¬ (hI h0 8 0 2) < (nI 12) → (Q (some (vi (-4))) h0 ∧ h0.1 = σ.1)))
  rw [e2, h12]
  exact br_lt (by omega) (by omega) (fun g => by omega) (fun _ => ⟨hq h0 f0, e0⟩)
theorem e_redirectY (d : Nat) (hB : σ.1 = Bm m L) (k : InC σ m n t D x) (hf : redF t n = none) (hp : p < 12) (hq12 : q < 12) (ga : gAO a) (gb : gAO b) (hs : sg t 0 n = txLink (some p) a ++ 62 :: txLink (some q) b) (hb : ¬ badR (p, a) (q, b) x.2.1) (h12 : x.2.1.length < 12) : RI (d + 5) 80 [vr 1 0] σ (Bm (kpM m D) L) (nI (x.2.1.length + 1)) (fun h => InC h (kpM m D) 0 t (nxD D x) (x.1, x.2.1 ++ [((p, a), (q, b))], x.2.2) ∧ Fi CF σ h) := by
  have hB' : leB σ.1 (Bm (kpM m D) L) := by rw [hB]; exact Bm_le L (kpM_ge m D)
  refine RI_of mt_80 (Nat.le_of_ble_eq_true rfl) hB' fun Q hq => s_red d hB' k hf hp hq12 ga gb hs (fun _ h0 e0 f0 => ?_) (fun w => absurd w hb)
  have c0 := InC_5 f0 k
  refine wp_ok (cut := []) ma_80 rfl 24 _ _ _ _ ?_
  show (((hI h0 8 0 2) < (nI 12) → CalV true (d + 4) 106 [vr 1 0] h0 (Bm (kpM m D) L) (fun s1 => CalV true (d + 4) 63 [vr 8 0, vi (nI p), vl (lN (anO a)), vi (nI q), vl (lN (anO b))] s1 (Bm (kpM m D) L) (fun s2 => (Q (some (vi (hI s2 8 0 2))) (setI s2 1 0 1 (nI 0)) ∧ s2.1 = Bm (kpM m D) L)))) ∧ (¬ (hI h0 8 0 2) < (nI 12) → (Q (some (vi (-4))) h0 ∧ h0.1 = Bm (kpM m D) L)))
  rw [c0.2.1.2.2.2.1.1]
  refine br_lt (by omega) (by omega) (fun _ => cr_v (e_keepState (d + 2) c0.2.2 (e0.trans hB) (DBC_of c0.2.1)) (leB.rfl' _) (fun h1 q1 e1 => ?_)) (fun g => by omega)
  have c1 := InC_keep c0 q1
  have l1 : leB h1.1 (Bm (kpM m D) L) := by rw [e1]; exact leB.rfl' _
  refine dp_v (e_addRedirect (d + 4) (x := (p, a)) (y := (q, b)) c1.2.1.2.2.2.1 h12 ⟨hp, ga⟩ ⟨hq12, gb⟩) l1 (fun h2 q2 e2 => ?_)
  obtain ⟨a1, a2, a3⟩ := q2
  have c2 : InC h2 (kpM m D) n t (nxD D x) (x.1, x.2.1 ++ [((p, a), (q, b))], x.2.2) := InC_now a3 (fun g i w => by unfold SRd at w; omega) (CS_rd a1 a2 a3 c1.2.1) c1
  have f4 : Fr (fun f _ => f = 1 ∨ f = 2) h2 (setI h2 1 0 1 (nI 0)) := (Fr.rfl' _ _).sI (f := 1) (Or.inl rfl) _ _
  have c4 := InC_12 f4 (hI_k _ _ _ _ (by omega)) (pd_0 t (hI_s _ _ _ _ _)) c2
  rw [a1.1, List.length_append]
  exact ⟨hq _ ⟨c4, (((Fr_CF f0 fun g i w => by omega).tr (SKp_CF q1.2.2.1)).tr (Fr_CF a3 fun g i w => by unfold SRd at w; omega)).tr (Fr_CF f4 fun g i w => by omega)⟩, e2.trans e1⟩
end
theorem m_redirectF (d : Nat) {σ : Hp} {n : Nat} {t : Nat → Nat} (pd : PadM σ n t) (hf : redF t n ≠ none) : PI (d + 7) 168 [vr 233 0] σ (-3) (fun h => Fr (fun f _ => f = 233 ∨ f = 237 ∨ f = 238) σ h ∧ ∀ k, k ≠ 6 → hI h 233 0 k = hI σ 233 0 k) := by
  refine PI_of mt_168 (Nat.le_of_ble_eq_true rfl) fun Q hq => ?_
  obtain ⟨h1, q1, -, f1, g1⟩ := m_turn d pd
  refine wp_ok (cut := [12]) ma_168 rfl 6 _ _ _ _ ?_
  show CalI true (d + 6) 131 [vr 233 0] σ σ.1 (fun x2 s1 => ((x2 = (-6) → Sat true (d + 7) 168 σ.1 Q 12 [some (vr 233 0), none, none] [] s1) ∧ (¬ x2 = (-6) → (Q (some (vi (-3))) s1 ∧ s1.1 = σ.1))))
  exact cal_i q1 rfl ⟨fun g => absurd ((redF_6 pd.1).mp g) hf, fun _ => ⟨hq h1 ⟨f1, g1⟩, f1.1⟩⟩
section
variable {σ : Hp} {n p q : Nat} {t : Nat → Nat} {D : List DB} {x : DB} {a b : Option Anc}
/-- up to the answer whether it is possible -/
theorem sm_red (d : Nat) {Q : Option AV → Hp → Prop} (k : InM σ n t D x) (hf : redF t n = none) (hp : p < 12) (hq12 : q < 12) (ga : gAO a) (gb : gAO b) (z1 : t 0 = 65 + p) (z2 : plTx t n 0 = txO a) (z3 : t (redB t n) = 65 + q) (z4 : plTx t n (redB t n) = txO b) (k1 : ¬ badR (p, a) (q, b) x.2.1 → ∀ h0, InM h0 n t D x → Fr (fun f _ => f = 233 ∨ f = 237 ∨ f = 238) σ h0 → RowP (hI h0 238 0) 0 p (txO a) → RowP (hI h0 238 0) 14 q (txO b) → Sat true (d + 7) 168 σ.1 Q 82 [some (vr 233 0), none, none] [] h0) (k2 : badR (p, a) (q, b) x.2.1 → ∀ h0, InM h0 n t D x → Fr (fun f _ => f = 233 ∨ f = 237 ∨ f = 238) σ h0 → Q (some (vi (-5))) h0) : Sat true (d + 7) 168 σ.1 Q 0 [some (vr 233 0), none, none] [] σ := by
  obtain ⟨h1, q1, r1, f1, g1⟩ := m_turn d k.1
  have c1 := InM_6 f1 g1 k
  obtain ⟨ra, rb⟩ := r1 hf
  rw [z1, z2, Nat.add_sub_cancel_left] at ra
  rw [z3, z4, Nat.add_sub_cancel_left] at rb
  have s1 := m_sameP238_238 (σ := h1) (d + 5) (i := 0) (j := 14) (by omega) (by omega) hp hq12 (txO_len ga) (txO_len gb) (txO_lt ga) (txO_lt gb) ra rb
  obtain ⟨t1, t2, t3⟩ := c1.2.1.2.2.2.2.1
  have loop : ∀ (c e : List (Pl × Pl)) (fl : Bool), x.2.1 = c ++ e → (fl = true ↔ ((p, a) = (q, b) ∨ ∃ y ∈ c, y.1 = (p, a))) → Sat true (d + 7) 168 σ.1 Q 30 [some (vr 233 0), some (vi (bI fl)), some (vi (nI c.length))] [] h1 := by
    intro c e
    induction e generalizing c with
    | nil =>
      intro fl e1 hfl
      rw [List.append_nil] at e1
      have hl : x.2.1.length = c.length := by rw [e1]
      have bad : fl = true ↔ badR (p, a) (q, b) x.2.1 := by
        rw [hfl]
        unfold badR
        rw [e1]
        constructor
        · rintro (w | ⟨y, h1, h2⟩)
          · exact Or.inr w
          · exact Or.inl fun u => rdO_none.mp u y h1 h2
        · rintro (w | w)
          · refine Or.inr (Classical.byContradiction fun u => w (rdO_none.mpr fun z hz e => u ⟨z, hz, e⟩))
          · exact Or.inl w
      refine wp_ok (cut := [30, 82]) ma_168 rfl 22 _ _ _ _ ?_
      show CalI true (d + 6) 166 [vr 233 0] h1 σ.1 (fun x2 s1 => ((x2 ≤ (nI c.length) → (((bI fl) = 0 → Sat true (d + 7) 168 σ.1 Q 82 [some (vr 233 0), some (vi (bI fl)), some (vi (nI c.length))] [] s1) ∧ (¬ (bI fl) = 0 → (Q (some (vi (-5))) s1 ∧ s1.1 = σ.1)))) ∧ (¬ x2 ≤ (nI c.length) → ((¬ (bI fl) = 0 → Sat true (d + 7) 168 σ.1 Q 30 [some (vr 233 0), some (vi (nI 1)), some (vi ((nI c.length) + nI 1))] [] s1) ∧ ((bI fl) = 0 → CalI true (d + 6) 165 [vr 233 0, vi (nI c.length)] s1 σ.1 (fun x4 s3 => CalI true (d + 6) 167 [vr 233 0, vr 238 0, vi (nI 0), vr 235 0, vi x4] s3 σ.1 (fun x6 s5 => ((x6 = 0 → Sat true (d + 7) 168 σ.1 Q 30 [some (vr 233 0), some (vi (nI 0)), some (vi ((nI c.length) + nI 1))] [] s5) ∧ (¬ x6 = 0 → Sat true (d + 7) 168 σ.1 Q 30 [some (vr 233 0), some (vi (nI 1)), some (vi ((nI c.length) + nI 1))] [] s5)))))))))
      refine cal_i (m_turns (d + 6) t1) f1.1 ?_
      rw [hl]
      refine br_le (by omega) (by omega) (fun _ => brI (fun g => Sat_no 1 (Sat_no 2 (k1 (fun w => by rw [bad.mpr w] at g; cases g) h1 c1 f1 ra rb))) (fun g => ⟨k2 (bad.mp g) h1 c1 f1, f1.1⟩)) (fun g => absurd g (Nat.lt_irrefl _))
    | cons y e ih =>
      intro fl e1 hfl
      have hl : x.2.1.length = c.length + (e.length + 1) := by rw [e1, List.length_append, List.length_cons]
      have hy : x.2.1[c.length]? = some y := by rw [e1, List.getElem?_append_right (Nat.le_refl _), Nat.sub_self]; rfl
      obtain ⟨y1, y2, y3, y4⟩ := t3 c.length y hy
      have sp := m_sameP238_235 (σ := h1) (d + 5) (i := 0) (j := 1932 + 28 * c.length) (by omega) (by omega) hp y3.1 (txO_len ga) (txO_len y3.2) (txO_lt ga) (txO_lt y3.2) ra y1
      have is : (p = y.1.1 ∧ txO a = txO y.1.2) ↔ y.1 = (p, a) := by
        rw [txO_inj ga y3.2]
        exact ⟨fun w => Prod.ext w.1.symm w.2.symm, fun w => ⟨(congrArg Prod.fst w).symm, (congrArg Prod.snd w).symm⟩⟩
      have nx := fun fl => ih (c ++ [y]) fl (by rw [List.append_assoc]; exact e1)
      have ln : (c ++ [y]).length = c.length + 1 := by rw [List.length_append]; rfl
      rw [ln] at nx
      have mem : (∃ z ∈ c ++ [y], z.1 = (p, a)) ↔ ((∃ z ∈ c, z.1 = (p, a)) ∨ y.1 = (p, a)) := by
        constructor
        · rintro ⟨z, h1, h2⟩
          rcases List.mem_append.mp h1 with w | w
          · exact Or.inl ⟨z, w, h2⟩
          · cases w with
            | head => exact Or.inr h2
            | tail _ u => cases u
        · rintro (⟨z, h1, h2⟩ | w)
          · exact ⟨z, List.mem_append.mpr (Or.inl h1), h2⟩
          · exact ⟨y, List.mem_append.mpr (Or.inr List.mem_cons_self), w⟩
      have e0 : hI h1 235 0 = hI h1 235 0 := rfl
      refine wp_ok (cut := [30, 82]) ma_168 rfl 22 _ _ _ _ ?_
      show CalI true (d + 6) 166 [vr 233 0] h1 σ.1 (fun x2 s1 => ((x2 ≤ (nI c.length) → (((bI fl) = 0 → Sat true (d + 7) 168 σ.1 Q 82 [some (vr 233 0), some (vi (bI fl)), some (vi (nI c.length))] [] s1) ∧ (¬ (bI fl) = 0 → (Q (some (vi (-5))) s1 ∧ s1.1 = σ.1)))) ∧ (¬ x2 ≤ (nI c.length) → ((¬ (bI fl) = 0 → Sat true (d + 7) 168 σ.1 Q 30 [some (vr 233 0), some (vi (nI 1)), some (vi ((nI c.length) + nI 1))] [] s1) ∧ ((bI fl) = 0 → CalI true (d + 6) 165 [vr 233 0, vi (nI c.length)] s1 σ.1 (fun x4 s3 => CalI true (d + 6) 167 [vr 233 0, vr 238 0, vi (nI 0), vr 235 0, vi x4] s3 σ.1 (fun x6 s5 => ((x6 = 0 → Sat true (d + 7) 168 σ.1 Q 30 [some (vr 233 0), some (vi (nI 0)), some (vi ((nI c.length) + nI 1))] [] s5) ∧ (¬ x6 = 0 → Sat true (d + 7) 168 σ.1 Q 30 [some (vr 233 0), some (vi (nI 1)), some (vi ((nI c.length) + nI 1))] [] s5)))))))))
      refine cal_i (m_turns (d + 6) t1) f1.1 ?_
      rw [addN]
      refine br_le (by omega) (by omega) (fun g => by omega) (fun _ => brN (fun g => ?_) (fun g => cal_i (m_turnAt (d + 6) h1 c.length) f1.1 (cal_i sp f1.1 (brI (fun g2 => ?_) (fun g2 => ?_)))))
      · exact nx true ⟨fun _ => (hfl.mp g).elim Or.inl (fun w => Or.inr (mem.mpr (Or.inl w))), fun _ => rfl⟩
      · refine nx false ⟨fun w => (by cases w), fun w => ?_⟩
        have : fl = true := hfl.mpr (w.elim Or.inl (fun u => (mem.mp u).elim Or.inr (fun v => absurd (is.mpr v) (of_decide_eq_false g2))))
        rw [g] at this
        cases this
      · exact nx true ⟨fun _ => Or.inr (mem.mpr (Or.inr (is.mp (of_decide_eq_true g2)))), fun _ => rfl⟩
  refine wp_ok (cut := [30]) ma_168 rfl 15 _ _ _ _ ?_
  show CalI true (d + 6) 131 [vr 233 0] σ σ.1 (fun x2 s1 => ((x2 = (-6) → CalI true (d + 6) 167 [vr 233 0, vr 238 0, vi (nI 0), vr 238 0, vi (nI 14)] s1 σ.1 (fun x4 s3 => Sat true (d + 7) 168 σ.1 Q 30 [some (vr 233 0), some (vi x4), some (vi (nI 0))] [] s3)) ∧ (¬ x2 = (-6) → (Q (some (vi (-3))) s1 ∧ s1.1 = σ.1))))
  refine cal_i q1 rfl ⟨fun _ => cal_i s1 f1.1 ?_, fun g => absurd ((redF_6 k.1.1).mpr hf) g⟩
  refine loop [] x.2.1 _ rfl ⟨fun w => Or.inl ?_, fun w => decide_eq_true (w.elim (fun u => ⟨congrArg Prod.fst u, congrArg txO (congrArg Prod.snd u)⟩) (fun u => ?_))⟩
  · have := of_decide_eq_true w
    exact Prod.ext this.1 ((txO_inj ga gb).mp this.2)
  · obtain ⟨z, h1, -⟩ := u
    cases h1
theorem m_redirectB (d : Nat) (k : InM σ n t D x) (hf : redF t n = none) (hp : p < 12) (hq12 : q < 12) (ga : gAO a) (gb : gAO b) (z1 : t 0 = 65 + p) (z2 : plTx t n 0 = txO a) (z3 : t (redB t n) = 65 + q) (z4 : plTx t n (redB t n) = txO b) (hb : badR (p, a) (q, b) x.2.1) : PI (d + 7) 168 [vr 233 0] σ (-5) (fun h => InM h n t D x ∧ Fr MF σ h) := PI_of mt_168 (Nat.le_of_ble_eq_true rfl) fun Q hq => sm_red d k hf hp hq12 ga gb z1 z2 z3 z4 (fun w => absurd hb w) (fun _ h0 c0 f0 => hq h0 ⟨c0, f0.mo fun f p w => by unfold MF; omega⟩)
theorem m_redirectT (d : Nat) (k : InM σ n t D x) (hf : redF t n = none) (hp : p < 12) (hq12 : q < 12) (ga : gAO a) (gb : gAO b) (z1 : t 0 = 65 + p) (z2 : plTx t n 0 = txO a) (z3 : t (redB t n) = 65 + q) (z4 : plTx t n (redB t n) = txO b) (hb : ¬ badR (p, a) (q, b) x.2.1) (h12 : x.2.1.length = 12) : PI (d + 7) 168 [vr 233 0] σ (-4) (fun h => InM h n t D x ∧ Fr MF σ h) := by
  refine PI_of mt_168 (Nat.le_of_ble_eq_true rfl) fun Q hq => sm_red d k hf hp hq12 ga gb z1 z2 z3 z4 (fun _ h0 c0 f0 ra rb => ?_) (fun w => absurd w hb)
  refine wp_ok (cut := [94]) ma_168 rfl 6 _ _ _ _ ?_
  show CalI true (d + 6) 166 [vr 233 0] h0 σ.1 (fun x2 s1 => ((¬ x2 = (nI 12) → Sat true (d + 7) 168 σ.1 Q 94 [some (vr 233 0), none, none] [] s1) ∧ (x2 = (nI 12) → (Q (some (vi (-4))) s1 ∧ s1.1 = σ.1))))
  refine cal_i (m_turns (d + 6) c0.2.1.2.2.2.2.1.1) f0.1 ?_
  rw [h12]
  exact br_ne (by omega) (by omega) (fun g => absurd rfl g) (fun _ => ⟨hq h0 ⟨c0, f0.mo fun f p w => by unfold MF; omega⟩, f0.1⟩)
set_option maxRecDepth 6000 in
theorem m_redirectY (d : Nat) (k : InM σ n t D x) (hf : redF t n = none) (hp : p < 12) (hq12 : q < 12) (ga : gAO a) (gb : gAO b) (z1 : t 0 = 65 + p) (z2 : plTx t n 0 = txO a) (z3 : t (redB t n) = 65 + q) (z4 : plTx t n (redB t n) = txO b) (hb : ¬ badR (p, a) (q, b) x.2.1) (h12 : x.2.1.length < 12) : PI (d + 7) 168 [vr 233 0] σ (nI (x.2.1.length + 1)) (fun h => InM h 0 t (nxD D x) (x.1, x.2.1 ++ [((p, a), (q, b))], x.2.2) ∧ Fr MF σ h) := by
  refine PI_of mt_168 (Nat.le_of_ble_eq_true rfl) fun Q hq => sm_red d k hf hp hq12 ga gb z1 z2 z3 z4 (fun _ h0 c0 f0 ra rb => ?_) (fun w => absurd w hb)
  refine wp_ok (cut := [100]) ma_168 rfl 8 _ _ _ _ ?_
  show CalI true (d + 6) 166 [vr 233 0] h0 σ.1 (fun x2 s1 => ((¬ x2 = (nI 12) → CalV true (d + 6) 133 [vr 233 0] s1 σ.1 (fun s3 => Sat true (d + 7) 168 σ.1 Q 100 [some (vr 233 0), none, some (vi (nI 0))] [] s3)) ∧ (x2 = (nI 12) → (Q (some (vi (-4))) s1 ∧ s1.1 = σ.1))))
  refine cal_i (m_turns (d + 6) c0.2.1.2.2.2.2.1.1) f0.1 ?_
  refine br_ne (by omega) (by omega) (fun _ => cp_v (m_putDown (d + 6) c0.2.2 (DBM_of c0.2.1)) f0.1 (fun h1 q1 e1 => ?_)) (fun g => by omega)
  have c1 := InM_keep c0 q1.1 q1.2
  have fm1 : Fr MF σ h1 := (f0.mo fun f p w => by unfold MF; omega).tr (SPd_MF q1.2)
  have e238 : hI h1 238 0 = hI h0 238 0 := q1.2.fam (fun k w => by unfold SPd at w; omega) 0
  rw [← e238] at ra rb
  obtain ⟨t1, t2, t3⟩ := c1.2.1.2.2.2.2.1
  have loop : ∀ (w i : Nat) (h : Hp), i + w = 28 → FrM STu h1 h → hI h 235 0 2268 = nI x.2.1.length → (∀ j, j < 1932 + 28 * x.2.1.length → hI h 235 0 j = hI h1 235 0 j) → (∀ j, j < i → hI h 235 0 (1932 + 28 * x.2.1.length + j) = hI h1 238 0 j) → Sat true (d + 7) 168 σ.1 Q 100 [some (vr 233 0), none, some (vi (nI i))] [] h := by
    intro w
    induction w with
    | zero =>
      intro i h hi f z a1 a2
      have hi : i = 28 := hi
      have hB : h.1 = σ.1 := f.1.trans e1
      have i1 : vp_in (nI 2268) 2830 := inb (by omega) (by omega)
      refine wp_ok (cut := [100]) ma_168 rfl 18 _ _ _ _ ?_
      show (((nI 28) ≤ (nI i) → (vp_in (nI 2268) 2830 ∧ (vp_in (nI 2268) 2830 ∧ CalI true (d + 6) 166 [vr 233 0] (setI (setI h 235 0 2268 ((hI h 235 0 2268) + (nI 1))) 233 0 1 (nI 0)) σ.1 (fun x2 s1 => (Q (some (vi x2)) s1 ∧ s1.1 = σ.1))))) ∧ (¬ (nI 28) ≤ (nI i) → CalI true (d + 6) 166 [vr 233 0] h σ.1 (fun x4 s3 => CalI true (d + 6) 165 [vr 233 0, vi x4] s3 σ.1 (fun x6 s5 => (vp_in (nI i) 28 ∧ (vp_in (x6 + (nI i)) 2830 ∧ Sat true (d + 7) 168 σ.1 Q 100 [some (vr 233 0), none, some (vi ((nI i) + nI 1))] [] (setI s5 235 0 ((x6 + (nI i)).toNatClampNeg) (hI s5 238 0 ((nI i).toNatClampNeg)))))))))
      rw [z, addN]
      have f2 : FrM STu h1 (setI h 235 0 2268 (nI (x.2.1.length + 1))) := f.sI (f := 235) ⟨rfl, by omega, by omega⟩ _
      have z5 : hI (setI (setI h 235 0 2268 (nI (x.2.1.length + 1))) 233 0 1 (nI 0)) 235 0 2268 = nI (x.2.1.length + 1) := by rw [hI_f _ _ _ (by omega), hI_s]
      have c2 : InM (setI h 235 0 2268 (nI (x.2.1.length + 1))) n t (nxD D x) (x.1, x.2.1 ++ [((p, a), (q, b))], x.2.2) := by
        refine InM_fr f2 (by unfold STu; omega) (by unfold STu; omega) (fun j w => by unfold STu at w; omega) (fun j w => by unfold STu at w; omega) (MS_tu f2 ⟨?_, ?_, ?_⟩ c1.2.1) c1
        · rw [hI_s, List.length_append]
          rfl
        · rw [List.length_append]
          show x.2.1.length + 1 ≤ 12
          omega
        · refine All_snoc t3 (fun j y hj c => TrM_mv (fun i hi => by rw [hI_k _ _ _ _ (by omega), a1 _ (by omega)]) c) ⟨?_, ?_, ⟨hp, ga⟩, ⟨hq12, gb⟩⟩
          · refine RowP_mv (u := hI h1 238 0) (o := 0) ?_ (fun i _ hi => ?_) ra
            · have := a2 0 (by omega)
              rw [hI_k _ _ _ _ (by omega)]
              exact this.trans ra.1
            · rw [hI_k _ _ _ _ (by omega), a2 i (by omega), Nat.zero_add]
          · refine RowP_mv (u := hI h1 238 0) (o := 14) ?_ (fun i _ hi => ?_) rb
            · rw [hI_k _ _ _ _ (by omega), a2 14 (by omega)]
              exact rb.1
            · rw [hI_k _ _ _ _ (by omega), Nat.add_assoc, a2 (14 + i) (by omega)]
      have f4 : Fr (fun f _ => f = 233 ∨ f = 234 ∨ f = 237 ∨ f = 238) (setI h 235 0 2268 (nI (x.2.1.length + 1))) (setI (setI h 235 0 2268 (nI (x.2.1.length + 1))) 233 0 1 (nI 0)) := (Fr.rfl' _ _).sI (f := 233) (Or.inl rfl) _ _
      have c4 := InM_34 f4 (hI_k _ _ _ _ (by omega)) (hI_k _ _ _ _ (by omega)) (pm_0 t (hI_s _ _ _ _ _)) c2
      refine br_le (by omega) (by omega) (fun _ => ⟨i1, i1, cal_i (m_turns (d + 6) z5) hB ⟨hq _ ⟨c4, (fm1.tr (fm_fr f2 fun g i w => by unfold STu at w; omega)).tr (f4.mo fun f p w => by unfold MF; omega)⟩, hB⟩⟩) (fun g => by omega)
    | succ w ih =>
      intro i h hi f z a1 a2
      have hB : h.1 = σ.1 := f.1.trans e1
      have e8 : hI h 238 0 i = hI h1 238 0 i := f.2.2.2 238 0 i (fun w => by have := w.2; unfold STu at this; omega)
      refine wp_ok (cut := [100]) ma_168 rfl 18 _ _ _ _ ?_
      show (((nI 28) ≤ (nI i) → (vp_in (nI 2268) 2830 ∧ (vp_in (nI 2268) 2830 ∧ CalI true (d + 6) 166 [vr 233 0] (setI (setI h 235 0 2268 ((hI h 235 0 2268) + (nI 1))) 233 0 1 (nI 0)) σ.1 (fun x2 s1 => (Q (some (vi x2)) s1 ∧ s1.1 = σ.1))))) ∧ (¬ (nI 28) ≤ (nI i) → CalI true (d + 6) 166 [vr 233 0] h σ.1 (fun x4 s3 => CalI true (d + 6) 165 [vr 233 0, vi x4] s3 σ.1 (fun x6 s5 => (vp_in (nI i) 28 ∧ (vp_in (x6 + (nI i)) 2830 ∧ Sat true (d + 7) 168 σ.1 Q 100 [some (vr 233 0), none, some (vi ((nI i) + nI 1))] [] (setI s5 235 0 ((x6 + (nI i)).toNatClampNeg) (hI s5 238 0 ((nI i).toNatClampNeg)))))))))
      refine br_le (by omega) (by omega) (fun g => by omega) (fun _ => cal_i (m_turns (d + 6) z) hB (cal_i (m_turnAt (d + 6) h _) hB ?_))
      rw [addN, addN, ix (by omega), ix (by omega), e8]
      refine ⟨inb (by omega) (by omega), inb (by omega) (by omega), ih (i + 1) _ (by omega) (f.sI (f := 235) ⟨rfl, by omega, by omega⟩ _) ?_ (fun j hj => ?_) (fun j hj => ?_)⟩
      · rw [hI_k _ _ _ _ (by omega)]
        exact z
      · rw [hI_k _ _ _ _ (by omega)]
        exact a1 j hj
      · by_cases c : j = i
        · rw [c, hI_s]
        · rw [hI_k _ _ _ _ (by omega)]
          exact a2 j (by omega)
  exact loop 28 0 h1 (by omega) (FrM.rfl' _ _) t1 (fun _ _ => rfl) (fun j hj => absurd hj (Nat.not_lt_zero _))
end
theorem op_redirect : OpOK 80 168 [] := by
  intro L m n t D x hp
  by_cases hf : redF t n = none
  · obtain ⟨p, q, a, b, hp12, hq12, ga, gb, hs, z1, z2, z3, z4⟩ := redirect_of2 hf
    by_cases hb : badR (p, a) (q, b) x.2.1
    · exact ⟨(-5), m, n, t, D, x, okM m, fun σ hB k => RI_PI hB (PI_mo (e_redirectB 30 k hf hp12 hq12 ga gb hs hb) fun h f => ⟨InC_5 f k, hp, Fr_CF f fun g i w => by omega⟩), fun σ k _ => m_redirectB 28 k hf hp12 hq12 ga gb z1 z2 z3 z4 hb⟩
    · by_cases h12 : x.2.1.length < 12
      · exact ⟨nI (x.2.1.length + 1), kpM m D, 0, t, nxD D x, (x.1, x.2.1 ++ [((p, a), (q, b))], x.2.2), kpM_b hp, fun σ hB k => Ev_mo (e_redirectY 30 hB k hf hp12 hq12 ga gb hs hb h12) (fun r s w _ => ⟨w.1, w.2.1, ⟨hp.1, hp.2.1, nxD_u hp⟩, w.2.2⟩), fun σ k _ => m_redirectY 28 k hf hp12 hq12 ga gb z1 z2 z3 z4 hb h12⟩
      · exact ⟨(-4), m, n, t, D, x, okM m, fun σ hB k => RI_PI hB (PI_mo (e_redirectT 30 k hf hp12 hq12 ga gb hs hb (by have := k.2.1.2.2.2.1.2.1; omega)) fun h f => ⟨InC_5 f k, hp, Fr_CF f fun g i w => by omega⟩), fun σ k _ => m_redirectT 28 k hf hp12 hq12 ga gb z1 z2 z3 z4 hb (by have := k.2.1.2.2.2.2.1.2.1; omega)⟩
  · exact ⟨(-3), m, n, t, D, x, okM m, fun σ hB k => RI_PI hB (PI_mo (e_redirectF 30 k.1 hf) fun h f => ⟨InC_5 f k, hp, Fr_CF f fun g i w => by omega⟩), fun σ k _ => PI_mo (m_redirectF 28 k.1 hf) fun h q => ⟨InM_6 q.1 q.2 k, q.1.mo fun f p w => by unfold MF; omega⟩⟩
