/-! the model: layOwn, the loop -/
section
variable {σ : Hp} {p n : Nat} {Q : Option AV → Hp → Prop} {d : Nat}
theorem s_dig (hp : p < 12) (hn : n ≤ 160) {h : Hp} {sc : List (Nat × Nat)} {ni : Nat} {mi : Int32} {lk : List Lk} (hi : OJ σ h p sc ni mi lk) (hsc : sc.length ≤ 53) (hb : ∀ s ∈ sc, s.2 < 1000003) {a : Nat} {w : List Nat} (hw : small w) (ht : TxM σ p a w) (hx : a + w.length ≤ n) (e4 : Int32) (he4 : 0 < sc.length → e4 = nI (54 * p + sc.length - 1)) (k : ∀ h', OJ σ h' p (grow sc w) ni mi lk → Sat true (d + 4) 151 σ.1 Q 135 [some (vr 233 0), some (vi (nI p)), some (vi (nI a)), some (vi (nI (a + w.length))), some (vi e4)] [] h') : Sat true (d + 4) 151 σ.1 Q 117 [some (vr 233 0), some (vi (nI p)), some (vi (nI a)), some (vi (nI (a + w.length))), some (vi e4)] [] h := by
  have hT := OJ_tx hi
  have hi' := hi
  obtain ⟨j1, j2, j3, j4, j5, j6, j7⟩ := hi
  have i1 : vp_in (nI p) 12 := inb (by omega) (by omega)
  refine wp_ok (cut := [135]) ma_151 rfl 11 _ _ _ _ ?_
  show (vp_in (nI p) 12 ∧ (((hI h 247 0 ((nI p).toNatClampNeg)) ≤ 0 → Sat true (d + 4) 151 σ.1 Q 135 [some (vr 233 0), some (vi (nI p)), some (vi (nI a)), some (vi (nI (a + w.length))), some (vi e4)] [] h) ∧ (¬ (hI h 247 0 ((nI p).toNatClampNeg)) ≤ 0 → CalV true (d + 3) 150 [vr 233 0, vi e4, vi (nI p), vi (nI a), vi (nI (a + w.length))] h σ.1 (fun s1 => Sat true (d + 4) 151 σ.1 Q 135 [some (vr 233 0), some (vi (nI p)), some (vi (nI a)), some (vi (nI (a + w.length))), some (vi e4)] [] s1))))
  rw [ix (by omega), j1]
  refine ⟨i1, br_le (b := 0) (by omega) (by omega) (fun g => ?_) (fun g => ?_)⟩
  · have e0 : sc = [] := List.eq_nil_of_length_eq_zero (by omega)
    rw [e0] at hi' k
    exact k h hi'
  · rw [he4 g] at k ⊢
    rcases nil_or_sn sc with e | ⟨b, s, e⟩
    · rw [e] at g; cases g
    · have hla : sc.length = b.length + 1 := by rw [e, List.length_append]; rfl
      obtain ⟨s1, s2, s3⟩ := j2 b.length s (by rw [e, List.getElem?_append_right (Nat.le_refl _), Nat.sub_self]; rfl)
      have hs := hb s (by rw [e]; exact List.mem_append.mpr (Or.inr List.mem_cons_self))
      rw [show 54 * p + sc.length - 1 = 54 * p + b.length by omega] at k ⊢
      have c := m_digestLine (d + 2) h (s := 54 * p + b.length) (p := p) (a := a) (e := a + w.length) (g := s.2) (w := w) hp (by omega) s2 hs s1 hw (by unfold TxM; rw [hT]; exact ht) rfl (by omega)
      refine cal_v c j7.1 (k _ ⟨?_, ?_, ?_, ?_, ?_, ?_, ?_⟩)
      · simp (disch := omega) only [hI_s, hI_k, hI_f, hI_sL, hL_sI, hL_s, hL_k, hL_f]
        rw [grow_len]
        exact j1
      · rw [e, grow_sn]
        refine All_snoc (P := SecM h p) (fun j y hy => j2 j y (by rw [e, List.getElem?_append_left (All_lt hy)]; exact hy)) (fun j y hj c => SecM_cong (by simp (disch := omega) only [hI_s, hI_k, hI_f, hI_sL, hL_sI, hL_s, hL_k, hL_f]) (by simp (disch := omega) only [hI_s, hI_k, hI_f, hI_sL, hL_sI, hL_s, hL_k, hL_f]) (by simp (disch := omega) only [hI_s, hI_k, hI_f, hI_sL, hL_sI, hL_s, hL_k, hL_f]) c) ⟨?_, ?_, ?_⟩
        · simp (disch := omega) only [hI_s, hI_k, hI_f, hI_sL, hL_sI, hL_s, hL_k, hL_f]
          rw [addN]
        · simp (disch := omega) only [hI_s, hI_k, hI_f, hI_sL, hL_sI, hL_s, hL_k, hL_f]
        · simp (disch := omega) only [hI_s, hI_k, hI_f, hI_sL, hL_sI, hL_s, hL_k, hL_f]
          exact s3
      · simp (disch := omega) only [hI_s, hI_k, hI_f, hI_sL, hL_sI, hL_s, hL_k, hL_f]
        exact j3
      · simp (disch := omega) only [hI_s, hI_k, hI_f, hI_sL, hL_sI, hL_s, hL_k, hL_f]
        exact j4
      · simp (disch := omega) only [hI_s, hI_k, hI_f, hI_sL, hL_sI, hL_s, hL_k, hL_f]
        exact j5
      · exact All_mo j6 fun j y _ c => LinkM_cong (by simp (disch := omega) only [hI_s, hI_k, hI_f, hI_sL, hL_sI, hL_s, hL_k, hL_f]) (by simp (disch := omega) only [hI_s, hI_k, hI_f, hI_sL, hL_sI, hL_s, hL_k, hL_f]) (by simp (disch := omega) only [hI_s, hI_k, hI_f, hI_sL, hL_sI, hL_s, hL_k, hL_f]) (by simp (disch := omega) only [hI_s, hI_k, hI_f, hI_sL, hL_sI, hL_s, hL_k, hL_f]) c
      · exact (j7.sI (f := 248) (Or.inr (Or.inl ⟨Or.inl rfl, by omega, by omega⟩)) _).sI (f := 250) (Or.inr (Or.inl ⟨Or.inr (Or.inr rfl), by omega, by omega⟩)) _
set_option maxRecDepth 6000 in
theorem s_own (hp : p < 12) {ls : List Line} (hg : gPg ls) (hnl : n = (txPg ls).length) (hn : n ≤ 160) (hs : hI σ 235 0 (1920 + p) = nI n) (hq : ∀ h, OJ σ h p (secs ls) (nInc ls) (mInc ls) (lkPg p 0 ls) → Q none h) : ∀ (rl dl : List Line) (a : Nat) (h : Hp), ls = dl ++ rl → a = posL dl → (rl ≠ [] → TxM σ p a (txPg rl) ∧ n = a + (txPg rl).length) → (rl = [] → n ≤ a ∧ a ≤ n + 1) → OJ σ h p (secs dl) (nInc dl) (mInc dl) (lkPg p 0 dl) → Sat true (d + 4) 151 σ.1 Q 30 [some (vr 233 0), some (vi (nI p)), some (vi (nI a)), none, none] [] h := by
  have hl2 := txPg_len hg
  have hs3 := nHd_b hg
  have hb4 := lkPg_b p 0 hg
  intro rl
  induction rl with
  | nil =>
    intro dl a h hls _ _ ha hi
    rw [List.append_nil] at hls
    subst hls
    obtain ⟨ha, ha2⟩ := ha rfl
    have hT := OJ_tx hi
    have c := m_size (d + 3) h hp
    rw [hT, hs] at c
    refine wp_ok (cut := [30, 117, 188]) ma_151 rfl 57 _ _ _ _ ?_
    show CalI true (d + 3) 110 [vr 233 0, vi (nI p)] h σ.1 (fun x2 s1 => ((x2 ≤ (nI a) → (Q none s1 ∧ s1.1 = σ.1)) ∧ (¬ x2 ≤ (nI a) → CalI true (d + 3) 146 [vr 233 0, vi (nI p), vi (nI a)] s1 σ.1 (fun x4 s3 => (vp_in (nI p) 12 ∧ CalI true (d + 3) 112 [vr 233 0, vi (nI p), vi (nI a)] s3 σ.1 (fun x6 s5 => ((¬ x6 = (nI 61) → Sat true (d + 4) 151 σ.1 Q 117 [some (vr 233 0), some (vi (nI p)), some (vi (nI a)), some (vi x4), some (vi ((((nI 54) * (nI p)) + (hI s3 247 0 ((nI p).toNatClampNeg))) - (nI 1)))] [] s5) ∧ (x6 = (nI 61) → (vp_in (((((nI 54) * (nI p)) + (hI s3 247 0 ((nI p).toNatClampNeg))) - (nI 1)) + (nI 1)) 648 ∧ (vp_in (((((nI 54) * (nI p)) + (hI s3 247 0 ((nI p).toNatClampNeg))) - (nI 1)) + (nI 1)) 648 ∧ (vp_in (((((nI 54) * (nI p)) + (hI s3 247 0 ((nI p).toNatClampNeg))) - (nI 1)) + (nI 1)) 648 ∧ (vp_in (nI p) 12 ∧ (vp_in (nI p) 12 ∧ Sat true (d + 4) 151 σ.1 Q 188 [some (vr 233 0), some (vi (nI p)), some (vi (nI a)), some (vi x4), some (vi ((((nI 54) * (nI p)) + (hI s3 247 0 ((nI p).toNatClampNeg))) - (nI 1)))] [] (setI (setI (setI (setI s5 248 0 ((((((nI 54) * (nI p)) + (hI s3 247 0 ((nI p).toNatClampNeg))) - (nI 1)) + (nI 1)).toNatClampNeg) (nI 7)) 250 0 ((((((nI 54) * (nI p)) + (hI s3 247 0 ((nI p).toNatClampNeg))) - (nI 1)) + (nI 1)).toNatClampNeg) (nI 0)) 249 0 ((((((nI 54) * (nI p)) + (hI s3 247 0 ((nI p).toNatClampNeg))) - (nI 1)) + (nI 1)).toNatClampNeg) (-6)) 247 0 ((nI p).toNatClampNeg) ((hI s5 247 0 ((nI p).toNatClampNeg)) + (nI 1))))))))))))))))
    exact cal_i c hi.2.2.2.2.2.2.1 (br_le (by omega) (by omega) (fun _ => ⟨hq h hi, hi.2.2.2.2.2.2.1⟩) (fun g => by omega))
  | cons l r ih =>
    intro dl a h hls hpos hr _ hi
    obtain ⟨ta, hxa⟩ := hr (fun q => by cases q)
    have gl : gLine l := hg l (by rw [hls]; exact List.mem_append.mpr (Or.inr List.mem_cons_self))
    have hhd : nHd ls = nHd dl + (isHd l + nHd r) := by rw [hls, nHd_app]; rfl
    have hsl : (secs dl).length = 0 + nHd dl := secs_len dl []
    have hlk : (lkPg p 0 dl).length + (lkLine p a l).length ≤ 42 := by
      have : (lkPg p 0 ls).length = (lkPg p 0 dl).length + ((lkLine p a l).length + (lkPg p (a + (txLine l).length + 1) r).length) := by
        rw [hls, lkPg_app, Nat.zero_add, ← hpos, List.length_append]
        show _ + (lkLine p a l ++ lkPg p (a + (txLine l).length + 1) r).length = _
        rw [List.length_append]
      omega
    have hlen := txLine_len gl
    have tl : TxM σ p a (txLine l) ∧ a + (txLine l).length ≤ n ∧ (a + (txLine l).length < n → hI σ 235 0 (160 * p + (a + (txLine l).length)) = nI 59) ∧ (r ≠ [] → TxM σ p (a + (txLine l).length + 1) (txPg r) ∧ n = a + (txLine l).length + 1 + (txPg r).length) ∧ (r = [] → n ≤ a + (txLine l).length + 1 ∧ a + (txLine l).length + 1 ≤ n + 1) := by
      cases r with
      | nil =>
        have hxa : n = a + (txLine l).length := hxa
        exact ⟨ta, by omega, fun g => by omega, fun q => absurd rfl q, fun _ => by omega⟩
      | cons f r' =>
        have ta : Tx (hI σ 235 0) (160 * p + a) (txLine l ++ 59 :: txPg (f :: r')) := ta
        obtain ⟨t1, t2, t3⟩ := Tx_app.mp ta
        have hxa : n = a + (txLine l ++ 59 :: txPg (f :: r')).length := hxa
        rw [List.length_append, List.length_cons] at hxa
        refine ⟨t1, by omega, fun _ => by rw [← Nat.add_assoc]; exact t2, fun _ => ⟨?_, by omega⟩, fun q => by cases q⟩
        unfold TxM
        rw [show 160 * p + (a + (txLine l).length + 1) = 160 * p + a + (txLine l).length + 1 by omega]
        exact t3
    obtain ⟨t1, t2, t3, t4, t5⟩ := tl
    have hT := OJ_tx hi
    have j7 := hi.2.2.2.2.2.2
    have c := m_size (d + 3) h hp
    rw [hT, hs] at c
    have c2 := m_lineEnd (d + 2) h (a := a) (w := txLine l) hp hn (by rw [hT]; exact hs) (txLine_s gl) (by unfold TxM; rw [hT]; exact t1) t2 (by rw [hT]; exact t3)
    have i1 : vp_in (nI p) 12 := inb (by omega) (by omega)
    have go : ∀ (h' : Hp) (e4 : Int32), OJ σ h' p (stS (secs dl) l) (stI (nInc dl) l) (stM (mInc dl) l) (lkPg p 0 dl ++ lkLine p a l) → Sat true (d + 4) 151 σ.1 Q 188 [some (vr 233 0), some (vi (nI p)), some (vi (nI a)), some (vi (nI (a + (txLine l).length))), some (vi e4)] [] h' := by
      intro h' e4 k
      refine s_next hp hn hs k.2.2.2.2.2.2 (txLine_s gl) t1 t2 t3 (ih (dl ++ [l]) _ h' (by rw [hls, List.append_assoc]; rfl) (by rw [posL_sn, ← hpos]; omega) t4 t5 ?_) _ e4
      have e1 : secs (dl ++ [l]) = stS (secs dl) l := fold_sn _ _ _ _
      have e2 : nInc (dl ++ [l]) = stI (nInc dl) l := fold_sn _ _ _ _
      have e3 : mInc (dl ++ [l]) = stM (mInc dl) l := fold_sn _ _ _ _
      have e5 : lkPg p 0 (dl ++ [l]) = lkPg p 0 dl ++ lkLine p a l := by rw [lkPg_sn, Nat.zero_add, ← hpos]
      rw [e1, e2, e3, e5]
      exact k
    have ss := m_sign (d + 3) h (p := p) (i := a) (by omega)
    rw [hT] at ss
    refine wp_ok (cut := [30, 117, 188]) ma_151 rfl 57 _ _ _ _ ?_
    show CalI true (d + 3) 110 [vr 233 0, vi (nI p)] h σ.1 (fun x2 s1 => ((x2 ≤ (nI a) → (Q none s1 ∧ s1.1 = σ.1)) ∧ (¬ x2 ≤ (nI a) → CalI true (d + 3) 146 [vr 233 0, vi (nI p), vi (nI a)] s1 σ.1 (fun x4 s3 => (vp_in (nI p) 12 ∧ CalI true (d + 3) 112 [vr 233 0, vi (nI p), vi (nI a)] s3 σ.1 (fun x6 s5 => ((¬ x6 = (nI 61) → Sat true (d + 4) 151 σ.1 Q 117 [some (vr 233 0), some (vi (nI p)), some (vi (nI a)), some (vi x4), some (vi ((((nI 54) * (nI p)) + (hI s3 247 0 ((nI p).toNatClampNeg))) - (nI 1)))] [] s5) ∧ (x6 = (nI 61) → (vp_in (((((nI 54) * (nI p)) + (hI s3 247 0 ((nI p).toNatClampNeg))) - (nI 1)) + (nI 1)) 648 ∧ (vp_in (((((nI 54) * (nI p)) + (hI s3 247 0 ((nI p).toNatClampNeg))) - (nI 1)) + (nI 1)) 648 ∧ (vp_in (((((nI 54) * (nI p)) + (hI s3 247 0 ((nI p).toNatClampNeg))) - (nI 1)) + (nI 1)) 648 ∧ (vp_in (nI p) 12 ∧ (vp_in (nI p) 12 ∧ Sat true (d + 4) 151 σ.1 Q 188 [some (vr 233 0), some (vi (nI p)), some (vi (nI a)), some (vi x4), some (vi ((((nI 54) * (nI p)) + (hI s3 247 0 ((nI p).toNatClampNeg))) - (nI 1)))] [] (setI (setI (setI (setI s5 248 0 ((((((nI 54) * (nI p)) + (hI s3 247 0 ((nI p).toNatClampNeg))) - (nI 1)) + (nI 1)).toNatClampNeg) (nI 7)) 250 0 ((((((nI 54) * (nI p)) + (hI s3 247 0 ((nI p).toNatClampNeg))) - (nI 1)) + (nI 1)).toNatClampNeg) (nI 0)) 249 0 ((((((nI 54) * (nI p)) + (hI s3 247 0 ((nI p).toNatClampNeg))) - (nI 1)) + (nI 1)).toNatClampNeg) (-6)) 247 0 ((nI p).toNatClampNeg) ((hI s5 247 0 ((nI p).toNatClampNeg)) + (nI 1))))))))))))))))
    refine cal_i c j7.1 (br_le (by omega) (by omega) (fun g => by omega) (fun _ => ?_))
    refine cal_i c2 j7.1 ?_
    rw [ix (by omega), hi.1, mulN, addN]
    refine ⟨i1, cal_i ss j7.1 ?_⟩
    rcases l with ⟨v, w⟩ | l2
    · obtain ⟨v', rfl⟩ : ∃ v', v = v' + 1 := ⟨v - 1, by have := gl.1; omega⟩
      have hc : hI σ 235 0 (160 * p + a) = nI 61 := t1.1
      have hhd1 : isHd (.inl (v' + 1, w)) = 1 := rfl
      obtain ⟨j1, j2, j3, j4, j5, j6, _⟩ := hi
      have i2 : vp_in (nI (54 * p + (secs dl).length)) 648 := inb (by omega) (by omega)
      rw [hc, sub1, ix (by omega), j1, addN]
      refine ⟨fun g => absurd rfl g, fun _ => ⟨i2, i2, i2, i1, i1, go _ _ ⟨?_, ?_, ?_, ?_, ?_, ?_, ?_⟩⟩⟩
      · simp (disch := omega) only [hI_s, hI_k, hI_f, hI_sL, hL_sI, hL_s, hL_k, hL_f]
        rw [stS_len]
        rfl
      · refine All_snoc j2 (fun j y hj c => SecM_cong (by simp (disch := omega) only [hI_s, hI_k, hI_f, hI_sL, hL_sI, hL_s, hL_k, hL_f]) (by simp (disch := omega) only [hI_s, hI_k, hI_f, hI_sL, hL_sI, hL_s, hL_k, hL_f]) (by simp (disch := omega) only [hI_s, hI_k, hI_f, hI_sL, hL_sI, hL_s, hL_k, hL_f]) c) ⟨?_, ?_, ?_⟩
        · simp (disch := omega) only [hI_s, hI_k, hI_f, hI_sL, hL_sI, hL_s, hL_k, hL_f]
        · simp (disch := omega) only [hI_s, hI_k, hI_f, hI_sL, hL_sI, hL_s, hL_k, hL_f]
        · simp (disch := omega) only [hI_s, hI_k, hI_f, hI_sL, hL_sI, hL_s, hL_k, hL_f]
      · simp (disch := omega) only [hI_s, hI_k, hI_f, hI_sL, hL_sI, hL_s, hL_k, hL_f]
        exact j3
      · simp (disch := omega) only [hI_s, hI_k, hI_f, hI_sL, hL_sI, hL_s, hL_k, hL_f]
        exact j4
      · simp (disch := omega) only [hI_s, hI_k, hI_f, hI_sL, hL_sI, hL_s, hL_k, hL_f]
        rw [show lkLine p a (.inl (v' + 1, w)) = [] from rfl, List.append_nil]
        exact j5
      · rw [show lkLine p a (.inl (v' + 1, w)) = [] from rfl, List.append_nil]
        exact All_mo j6 fun j y _ c => LinkM_cong (by simp (disch := omega) only [hI_s, hI_k, hI_f, hI_sL, hL_sI, hL_s, hL_k, hL_f]) (by simp (disch := omega) only [hI_s, hI_k, hI_f, hI_sL, hL_sI, hL_s, hL_k, hL_f]) (by simp (disch := omega) only [hI_s, hI_k, hI_f, hI_sL, hL_sI, hL_s, hL_k, hL_f]) (by simp (disch := omega) only [hI_s, hI_k, hI_f, hI_sL, hL_sI, hL_s, hL_k, hL_f]) c
      · exact (((j7.sI (f := 248) (Or.inr (Or.inl ⟨Or.inl rfl, by omega, by omega⟩)) _).sI (f := 250) (Or.inr (Or.inl ⟨Or.inr (Or.inr rfl), by omega, by omega⟩)) _).sI (f := 249) (Or.inr (Or.inl ⟨Or.inr (Or.inl rfl), by omega, by omega⟩)) _).sI (f := 247) (Or.inl ⟨Or.inl rfl, rfl⟩) _
    · have hc : ∃ c, hI σ 235 0 (160 * p + a) = nI c ∧ c ≠ 61 ∧ c < 128 := by
        rcases l2 with ⟨q, s⟩ | es
        · exact ⟨123, by cases s <;> exact t1.1, by decide, by decide⟩
        · obtain ⟨c, r, ec, c1, c2, c3⟩ := first_p gl
          refine ⟨c, ?_, c1, c3⟩
          have ht : Tx (hI σ 235 0) (160 * p + a) (txEls es) := t1
          rw [ec] at ht
          exact ht.1
      obtain ⟨c, hc, c1, c3⟩ := hc
      rw [hc]
      refine br_ne (by omega) (by omega) (fun _ => ?_) (fun g => absurd g c1)
      refine s_dig hp hn hi (by omega) (fun s hs => (secs_bd hs).2) (fun y hy => (txLine_s gl y hy).1) t1 t2 _ (fun g => by rw [subN (by omega)]) (fun h1 k1 => ?_)
      refine s_rest hp hn hs k1 gl t1 t2 hlk _ (fun h2 k2 => go h2 _ ?_)
      rcases l2 with _ | _ <;> exact k2
end
def OwnM (σ h : Hp) (p : Nat) (ls : List Line) : Prop := OJ σ h p (secs ls) (nInc ls) (mInc ls) (lkPg p 0 ls)
theorem m_layOwn (d : Nat) {σ : Hp} {p : Nat} {ls : List Line} (hp : p < 12) (hg : gPg ls) (hne : ls ≠ []) (hn : (txPg ls).length ≤ 160) (hs : hI σ 235 0 (1920 + p) = nI (txPg ls).length) (ht : TxM σ p 0 (txPg ls)) : PV (d + 4) 151 [vr 233 0, vi (nI p)] σ (fun h => OwnM σ h p ls) := by
  refine PV_of mt_151 (Nat.le_of_ble_eq_true rfl) fun Q hq => ?_
  have i1 : vp_in (nI p) 12 := inb (by omega) (by omega)
  refine wp_ok (cut := [30]) ma_151 rfl 22 _ _ _ _ ?_
  show (vp_in (nI p) 12 ∧ (vp_in (nI p) 12 ∧ (vp_in (nI p) 12 ∧ (vp_in (nI p) 12 ∧ Sat true (d + 4) 151 σ.1 Q 30 [some (vr 233 0), some (vi (nI p)), some (vi (nI 0)), none, none] [] (setI (setI (setI (setI σ 247 0 ((nI p).toNatClampNeg) (nI 0)) 251 0 ((nI p).toNatClampNeg) (nI 0)) 252 0 ((nI p).toNatClampNeg) (nI 0)) 253 0 ((nI p).toNatClampNeg) (nI 0))))))
  rw [ix (by omega)]
  refine ⟨i1, i1, i1, i1, s_own hp hg rfl hn hs hq ls [] 0 _ rfl rfl (fun _ => ⟨ht, by omega⟩) (fun e => absurd e hne) ⟨?_, All_nil, ?_, ?_, ?_, All_nil, ?_⟩⟩
  · simp (disch := omega) only [hI_s, hI_k, hI_f, hI_sL, hL_sI, hL_s, hL_k, hL_f]
    rfl
  · simp (disch := omega) only [hI_s, hI_k, hI_f, hI_sL, hL_sI, hL_s, hL_k, hL_f]
    rfl
  · simp (disch := omega) only [hI_s, hI_k, hI_f, hI_sL, hL_sI, hL_s, hL_k, hL_f]
    rfl
  · simp (disch := omega) only [hI_s, hI_k, hI_f, hI_sL, hL_sI, hL_s, hL_k, hL_f]
    rfl
  · exact ((((FrM.rfl' (SOwn p) σ).sI (f := 247) (Or.inl ⟨Or.inl rfl, rfl⟩) _).sI (f := 251) (Or.inl ⟨Or.inr (Or.inl rfl), rfl⟩) _).sI (f := 252) (Or.inl ⟨Or.inr (Or.inr rfl), rfl⟩) _).sI (f := 253) (Or.inr (Or.inr (Or.inl ⟨rfl, rfl⟩))) _
