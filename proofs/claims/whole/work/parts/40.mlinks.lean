/-! the model: links and digests of a page -/
theorem m_anchorAt (d : Nat) (σ : Hp) (p h : Nat) : EI d 144 [vi (nI p), vi (nI h)] σ (nI (12 * (100 * p + h))) σ := by
  refine EI_of mt_144 (Nat.le_of_ble_eq_true rfl) fun Q hq => ?_
  refine wp_ok (cut := []) ma_144 rfl 8 _ _ _ _ ?_
  show (Q (some (vi ((nI 12) * (((nI 100) * (nI p)) + (nI h))))) σ ∧ σ.1 = σ.1)
  rw [mulN, addN, mulN]
  exact ⟨hq, rfl⟩
theorem m_linkAnchor (d : Nat) (σ : Hp) (p l : Nat) : EI d 145 [vi (nI p), vi (nI l)] σ (nI (14400 + 12 * (42 * p + l))) σ := by
  refine EI_of mt_145 (Nat.le_of_ble_eq_true rfl) fun Q hq => ?_
  refine wp_ok (cut := []) ma_145 rfl 10 _ _ _ _ ?_
  show (Q (some (vi ((nI 14400) + ((nI 12) * (((nI 42) * (nI p)) + (nI l)))))) σ ∧ σ.1 = σ.1)
  rw [mulN, addN, mulN, addN]
  exact ⟨hq, rfl⟩
def LinkM (σ : Hp) (p j : Nat) (k : Lk) : Prop := hI σ 254 0 (42 * p + j) = nI k.2.2.1 ∧ hI σ 255 0 (42 * p + j) = nI k.2.2.2 ∧ hI σ 256 0 (42 * p + j) = nI k.1 ∧ RowA (hI σ 245 0) (14400 + 12 * (42 * p + j)) (txO k.2.1)
def SLk (p f k : Nat) : Prop := (f = 253 ∧ k = p) ∨ ((f = 254 ∨ f = 255 ∨ f = 256) ∧ 42 * p ≤ k ∧ k < 42 * p + 42) ∨ (f = 245 ∧ 14400 + 504 * p ≤ k ∧ k < 14400 + 504 * p + 504)
def LJ (σ h : Hp) (p : Nat) (dn : List Lk) : Prop := hI h 253 0 p = nI dn.length ∧ All dn (LinkM h p) ∧ FrM (SLk p) σ h
theorem SLk_tx (p k : Nat) : ¬ SLk p 235 k := by unfold SLk; omega
theorem LJ_tx {σ h : Hp} {p : Nat} {dn : List Lk} (hi : LJ σ h p dn) : hI h 235 0 = hI σ 235 0 := hi.2.2.fam (SLk_tx p) 0
theorem txO_len {c : Option Anc} (h : gAO c) : (txO c).length ≤ 11 := by
  cases c with
  | none => exact Nat.zero_le _
  | some z => exact (txAnc_len (h z rfl)).1
set_option maxRecDepth 4000 in
theorem m_keepLink (d : Nat) {σ h : Hp} {p : Nat} {dn : List Lk} (hp : p < 12) (hi : LJ σ h p dn) (hd : dn.length < 42) {l : Option Nat} {c : Option Anc} (hl : ∀ q, l = some q → q < 12) (hc : gAO c) (hn : l = none → c ≠ none) {b a : Nat} (ht : TxM σ p b (txLink l c)) (ha : a = b + (txLink l c).length) (ha2 : a ≤ 160) : PV (d + 2) 148 [vr 233 0, vi (nI p), vi (nI b), vi (nI a)] h (fun h' => LJ σ h' p (dn ++ [(l.getD p, c, b, a)])) := by
  refine PV_of mt_148 (Nat.le_of_ble_eq_true rfl) fun Q hq => ?_
  have hT := LJ_tx hi
  have h8 := hi.1
  have e1 : nI 42 * nI p + nI dn.length = nI (42 * p + dn.length) := by rw [mulN, addN]
  have i1 : vp_in (nI p) 12 := inb (by omega) (by omega)
  have i2 : vp_in (nI (42 * p + dn.length)) 504 := inb (by omega) (by omega)
  have hlen0 : (txLink l c).length = (txLet l).length + (txOpt c).length := by unfold txLink; rw [List.length_append]
  have hlen1 : 1 ≤ (txLink l c).length := by
    rw [hlen0]
    cases l with
    | none =>
      cases c with
      | none => exact absurd rfl (hn rfl)
      | some z => show 1 ≤ 0 + (35 :: txAnc z).length; rw [List.length_cons]; omega
    | some q => show 1 ≤ 1 + _; omega
  -- behind the calls of keepAnchor
  have fin : ∀ (x5 x6 : Option AV) (v : Int32), v = nI (l.getD p) → ∀ (g : Nat), g + (txO c).length = a → TxM σ p g (txO c) → CalV true (d + 1) 147 [vr 233 0, vi (nI (14400 + 12 * (42 * p + dn.length))), vi (nI p), vi (nI g), vi (nI a)] (setI (setI (setI h 254 0 (42 * p + dn.length) (nI b)) 255 0 (42 * p + dn.length) (nI a)) 256 0 (42 * p + dn.length) v) h.1 (fun s1 => vp_in (nI p) 12 ∧ (vp_in (nI p) 12 ∧ (Q none (setI s1 253 0 p (hI s1 253 0 p + nI 1)) ∧ s1.1 = h.1))) := by
    intro x5 x6 v hv g hg tg
    have tg' : TxM (setI (setI (setI h 254 0 (42 * p + dn.length) (nI b)) 255 0 (42 * p + dn.length) (nI a)) 256 0 (42 * p + dn.length) v) p g (txO c) := by
      unfold TxM at tg ⊢
      simp (disch := omega) only [hI_s, hI_k, hI_f, hI_sL, hL_sI, hL_s, hL_k, hL_f]
      rw [hT]
      exact tg
    have hL := txO_len hc
    refine cal_v (m_keepAnchor d _ hp (by omega) hL hg.symm ha2 tg') rfl ⟨i1, i1, hq _ ?_, rfl⟩
    have e8 : hI (arrI (setI (setI (setI h 254 0 (42 * p + dn.length) (nI b)) 255 0 (42 * p + dn.length) (nI a)) 256 0 (42 * p + dn.length) v) 245 0 (rowA (hI (setI (setI (setI h 254 0 (42 * p + dn.length) (nI b)) 255 0 (42 * p + dn.length) (nI a)) 256 0 (42 * p + dn.length) v) 245 0) (14400 + 12 * (42 * p + dn.length)) (txO c))) 253 0 p = nI dn.length := h8
    rw [e8, addN]
    refine ⟨?_, ?_, ?_⟩
    · rw [hI_s, List.length_append]; rfl
    · refine All_snoc hi.2.1 (fun j y hj q => ?_) ?_
      · obtain ⟨q1, q2, q3, q4⟩ := q
        refine ⟨?_, ?_, ?_, ?_⟩
        · simp (disch := omega) only [hI_s, hI_k, hI_f, hI_af]
          exact q1
        · simp (disch := omega) only [hI_s, hI_k, hI_f, hI_af]
          exact q2
        · simp (disch := omega) only [hI_s, hI_k, hI_f, hI_af]
          exact q3
        · simp (disch := omega) only [hI_f, hI_a]
          refine RowA_cong q4 fun k k1 k2 => rowA_out _ _ _ (by omega)
      · refine ⟨?_, ?_, ?_, ?_⟩
        · simp (disch := omega) only [hI_s, hI_k, hI_f, hI_af]
        · simp (disch := omega) only [hI_s, hI_k, hI_f, hI_af]
        · simp (disch := omega) only [hI_s, hI_k, hI_f, hI_af]
          exact hv
        · simp (disch := omega) only [hI_f, hI_a]
          exact rowA_row _ _ _
    · refine FrM.sI (FrM.aI (((hi.2.2.sI (f := 254) ?_ _).sI (f := 255) ?_ _).sI (f := 256) ?_ _) ?_) (f := 253) (Or.inl ⟨rfl, rfl⟩) _
      · exact Or.inr (Or.inl ⟨by omega, by omega, by omega⟩)
      · exact Or.inr (Or.inl ⟨by omega, by omega, by omega⟩)
      · exact Or.inr (Or.inl ⟨by omega, by omega, by omega⟩)
      · intro k hk
        refine rowA_out _ _ _ ?_
        unfold SLk at hk
        omega
  have back : ∀ (bl : Bool) (v : Int32), v = nI (l.getD p) → ∀ (g : Nat), (if b + bl.toNat < a then g = b + bl.toNat + 1 else g = a) → g + (txO c).length = a → TxM σ p g (txO c) → Sat true (d + 2) 148 h.1 Q 69 [some (vr 233 0), some (vi (nI p)), some (vi (nI b)), some (vi (nI a)), some (vi (nI (42 * p + dn.length))), some (vi (bI bl)), none] [] (setI (setI (setI h 254 0 (42 * p + dn.length) (nI b)) 255 0 (42 * p + dn.length) (nI a)) 256 0 (42 * p + dn.length) v) := by
    intro bl v hv g hg1 hg2 tg
    have k := fin none none v hv g hg2 tg
    have e3 : hI (setI (setI (setI h 254 0 (42 * p + dn.length) (nI b)) 255 0 (42 * p + dn.length) (nI a)) 256 0 (42 * p + dn.length) v) 253 0 p = nI dn.length := h8
    have e4 : (setI (setI (setI h 254 0 (42 * p + dn.length) (nI b)) 255 0 (42 * p + dn.length) (nI a)) 256 0 (42 * p + dn.length) v).1 = h.1 := rfl
    generalize setI (setI (setI h 254 0 (42 * p + dn.length) (nI b)) 255 0 (42 * p + dn.length) (nI a)) 256 0 (42 * p + dn.length) v = s at k e3 e4 ⊢
    refine wp_ok (cut := []) ma_148 rfl 33 _ _ _ _ ?_
    show (((bI bl) = 0 → (vp_in (nI p) 12 ∧ CalI true (d + 1) 145 [vi (nI p), vi (hI s 253 0 ((nI p).toNatClampNeg))] s h.1 (fun x2 s1 => (((nI a) ≤ (nI b) → CalV true (d + 1) 147 [vr 233 0, vi x2, vi (nI p), vi (nI a), vi (nI a)] s1 h.1 (fun s3 => (vp_in (nI p) 12 ∧ (vp_in (nI p) 12 ∧ (Q none (setI s3 253 0 ((nI p).toNatClampNeg) ((hI s3 253 0 ((nI p).toNatClampNeg)) + (nI 1))) ∧ s3.1 = h.1))))) ∧ (¬ (nI a) ≤ (nI b) → CalV true (d + 1) 147 [vr 233 0, vi x2, vi (nI p), vi ((nI b) + (nI 1)), vi (nI a)] s1 h.1 (fun s4 => (vp_in (nI p) 12 ∧ (vp_in (nI p) 12 ∧ (Q none (setI s4 253 0 ((nI p).toNatClampNeg) ((hI s4 253 0 ((nI p).toNatClampNeg)) + (nI 1))) ∧ s4.1 = h.1))))))))) ∧ (¬ (bI bl) = 0 → (vp_in (nI p) 12 ∧ CalI true (d + 1) 145 [vi (nI p), vi (hI s 253 0 ((nI p).toNatClampNeg))] s h.1 (fun x6 s5 => (((nI a) ≤ ((nI b) + (nI 1)) → CalV true (d + 1) 147 [vr 233 0, vi x6, vi (nI p), vi (nI a), vi (nI a)] s5 h.1 (fun s7 => (vp_in (nI p) 12 ∧ (vp_in (nI p) 12 ∧ (Q none (setI s7 253 0 ((nI p).toNatClampNeg) ((hI s7 253 0 ((nI p).toNatClampNeg)) + (nI 1))) ∧ s7.1 = h.1))))) ∧ (¬ (nI a) ≤ ((nI b) + (nI 1)) → CalV true (d + 1) 147 [vr 233 0, vi x6, vi (nI p), vi (((nI b) + (nI 1)) + (nI 1)), vi (nI a)] s5 h.1 (fun s8 => (vp_in (nI p) 12 ∧ (vp_in (nI p) 12 ∧ (Q none (setI s8 253 0 ((nI p).toNatClampNeg) ((hI s8 253 0 ((nI p).toNatClampNeg)) + (nI 1))) ∧ s8.1 = h.1))))))))))
    rw [ix (by omega), e3]
    cases bl with
    | false =>
      have hg1 : if b < a then g = b + 1 else g = a := hg1
      refine b_f ⟨i1, cal_i (m_linkAnchor (d + 1) _ p dn.length) e4 ?_⟩
      rw [addN]
      by_cases q : b < a
      · rw [if_pos q] at hg1
        rw [hg1] at k
        exact br_le (by omega) (by omega) (fun w => by omega) (fun _ => k)
      · rw [if_neg q] at hg1
        rw [hg1] at k
        exact br_le (by omega) (by omega) (fun _ => k) (fun w => by omega)
    | true =>
      have hg1 : if b + 1 < a then g = b + 1 + 1 else g = a := hg1
      refine b_t ⟨i1, cal_i (m_linkAnchor (d + 1) _ p dn.length) e4 ?_⟩
      rw [addN, addN]
      by_cases q : b + 1 < a
      · rw [if_pos q] at hg1
        rw [hg1] at k
        exact br_le (by omega) (by omega) (fun w => by omega) (fun _ => k)
      · rw [if_neg q] at hg1
        rw [hg1] at k
        exact br_le (by omega) (by omega) (fun _ => k) (fun w => by omega)
  have ss := m_sign (d + 1) h (p := p) (i := b) (by omega)
  rw [hT] at ss
  refine wp_ok (cut := [69]) ma_148 rfl 40 _ _ _ _ ?_
  show (vp_in (nI p) 12 ∧ CalI true (d + 1) 112 [vr 233 0, vi (nI p), vi (nI b)] h h.1 (fun x2 s1 => CalI true (d + 1) 108 [vi x2, vi (nI 65), vi (nI 76)] s1 h.1 (fun x4 s3 => (vp_in (((nI 42) * (nI p)) + (hI h 253 0 ((nI p).toNatClampNeg))) 504 ∧ (vp_in (((nI 42) * (nI p)) + (hI h 253 0 ((nI p).toNatClampNeg))) 504 ∧ ((x4 = 0 → (vp_in (((nI 42) * (nI p)) + (hI h 253 0 ((nI p).toNatClampNeg))) 504 ∧ Sat true (d + 2) 148 h.1 Q 69 [some (vr 233 0), some (vi (nI p)), some (vi (nI b)), some (vi (nI a)), some (vi (((nI 42) * (nI p)) + (hI h 253 0 ((nI p).toNatClampNeg)))), some (vi x4), none] [] (setI (setI (setI s3 254 0 ((((nI 42) * (nI p)) + (hI h 253 0 ((nI p).toNatClampNeg))).toNatClampNeg) (nI b)) 255 0 ((((nI 42) * (nI p)) + (hI h 253 0 ((nI p).toNatClampNeg))).toNatClampNeg) (nI a)) 256 0 ((((nI 42) * (nI p)) + (hI h 253 0 ((nI p).toNatClampNeg))).toNatClampNeg) (nI p)))) ∧ (¬ x4 = 0 → CalI true (d + 1) 112 [vr 233 0, vi (nI p), vi (nI b)] (setI (setI s3 254 0 ((((nI 42) * (nI p)) + (hI h 253 0 ((nI p).toNatClampNeg))).toNatClampNeg) (nI b)) 255 0 ((((nI 42) * (nI p)) + (hI h 253 0 ((nI p).toNatClampNeg))).toNatClampNeg) (nI a)) h.1 (fun x6 s5 => (vp_in (((nI 42) * (nI p)) + (hI h 253 0 ((nI p).toNatClampNeg))) 504 ∧ Sat true (d + 2) 148 h.1 Q 69 [some (vr 233 0), some (vi (nI p)), some (vi (nI b)), some (vi (nI a)), some (vi (((nI 42) * (nI p)) + (hI h 253 0 ((nI p).toNatClampNeg)))), some (vi x4), none] [] (setI s5 256 0 ((((nI 42) * (nI p)) + (hI h 253 0 ((nI p).toNatClampNeg))).toNatClampNeg) (x6 - (nI 65))))))))))))
  rw [ix (by omega), h8, e1, ix (by omega)]
  refine ⟨i1, cal_i ss rfl ?_⟩
  cases l with
  | none =>
    obtain ⟨z, rfl⟩ : ∃ z, c = some z := by
      cases c with
      | none => exact absurd rfl (hn rfl)
      | some z => exact ⟨z, rfl⟩
    have t1 : hI σ 235 0 (160 * p + b) = nI 35 := ht.1
    have t2 : TxM σ p (b + 1) (txAnc z) := by unfold TxM; rw [← Nat.add_assoc]; exact ht.2
    have hla : a = b + (35 :: txAnc z).length := ha
    rw [List.length_cons] at hla
    rw [t1]
    refine cal_i (m_in (d + 1) h (by omega) (by omega) (by omega)) rfl ?_
    rw [decide_eq_false (show ¬ (65 ≤ 35 ∧ 35 ≤ 76) by omega)]
    exact ⟨i2, i2, b_f ⟨i2, back false _ rfl (b + 1) (by show if b < a then b + 1 = b + 1 else b + 1 = a; rw [if_pos (by omega)]) (by show b + 1 + (txAnc z).length = a; omega) t2⟩⟩
  | some q =>
    have hq12 := hl q rfl
    have t1 : hI σ 235 0 (160 * p + b) = nI (65 + q) := ht.1
    rw [t1]
    refine cal_i (m_in (d + 1) h (by omega) (by omega) (by omega)) rfl ?_
    rw [decide_eq_true (show 65 ≤ 65 + q ∧ 65 + q ≤ 76 by omega)]
    refine ⟨i2, i2, b_t ?_⟩
    have ss2 := m_sign (d + 1) (setI (setI h 254 0 (42 * p + dn.length) (nI b)) 255 0 (42 * p + dn.length) (nI a)) (p := p) (i := b) (by omega)
    have e2 : hI (setI (setI h 254 0 (42 * p + dn.length) (nI b)) 255 0 (42 * p + dn.length) (nI a)) 235 0 (160 * p + b) = nI (65 + q) := by
      simp (disch := omega) only [hI_s, hI_k, hI_f, hI_sL, hL_sI, hL_s, hL_k, hL_f]
      rw [hT]
      exact t1
    rw [e2] at ss2
    refine cal_i ss2 rfl ⟨i2, ?_⟩
    rw [subN (by omega)]
    have ev : nI (65 + q - 65) = nI ((some q).getD p) := by rw [show 65 + q - 65 = q by omega]; rfl
    cases c with
    | none =>
      have ha : a = b + 1 := ha
      exact back true _ ev a (by show if b + 1 < a then a = b + 1 + 1 else a = a; rw [if_neg (by omega)]) rfl trivial
    | some z =>
      have ha : a = b + ((65 + q) :: 35 :: txAnc z).length := ha
      rw [List.length_cons, List.length_cons] at ha
      have t2 : TxM σ p (b + 1 + 1) (txAnc z) := by
        unfold TxM
        rw [show 160 * p + (b + 1 + 1) = 160 * p + b + 1 + 1 by omega]
        exact ht.2.2
      exact back true _ ev (b + 1 + 1) (by show if b + 1 < a then b + 1 + 1 = b + 1 + 1 else b + 1 + 1 = a; rw [if_pos (by omega)]) (by show b + 1 + 1 + (txAnc z).length = a; omega) t2
