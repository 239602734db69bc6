/-! calls: mendAll, the model -/
section
variable {σ : Hp} {n : Nat} {t : Nat → Nat}
def MdS (σ : Hp) (n : Nat) (t : Nat → Nat) (s : MSt) (h : Hp) : Prop := h.1 = σ.1 ∧ InM h n t s.2.2.1 s.2.2.2 ∧ LdX h s.2.2.2.1 (XF s.2.2.2.1) ∧ InP s.2.2.1 s.2.2.2 ∧ Fr MF σ h
theorem m_la (d : Nat) {D : List DB} {x : DB} {h : Hp} (c : InM h n t D x) : PV (d + 5) 157 [vr 233 0] h (fun h' => InM h' n t D x ∧ LdX h' x.1 (XF x.1) ∧ Fr MF h h') := Ev_mo (m_lay d c.2.1) (fun r s u _ => ⟨u.1, InM_fr u.2.2.2 (by unfold SLay; omega) (by unfold SLay; omega) (fun k u => by unfold SLay at u; omega) (fun k u => by unfold SLay at u; omega) u.2.1 c, u.2.2.1, fm_fr u.2.2.2 fun g i u => by unfold SLay at u; omega⟩)
set_option maxRecDepth 8000 in
theorem s_mstep {Q : Option AV → Hp → Prop} {d p j : Nat} {k : Lk} {s : MSt} {h : Hp} (hc : MdS σ n t s h) (hp : p < 12) (hk : (lkPg p 0 (s.2.2.2.1 p))[j]? = some k) (hcb : s.1 < 1000) (K : ∀ h', MdS σ n t (mdK p k s) h' → Sat true (d + 10) 200 σ.1 Q 16 [some (vr 233 0), some (vi (nI (mdK p k s).1)), some (vi (nI p)), some (vi (nI (j + 1)))] [] h') : Sat true (d + 10) 200 σ.1 Q 26 [some (vr 233 0), some (vi (nI s.1)), some (vi (nI p)), some (vi (nI j))] [] h := by
  obtain ⟨hB, c, ld, ip, fm⟩ := hc
  have hg := c.2.1.1
  have jl := (lkB_n hg hp hk).2
  have no : ∀ h', h'.1 = h.1 → InM h' n t s.2.2.1 s.2.2.2 → LdX h' s.2.2.2.1 (XF s.2.2.2.1) → Fr MF h h' → mdK p k s = s → Sat true (d + 10) 200 σ.1 Q 16 [some (vr 233 0), some (vi (nI s.1)), some (vi (nI p)), some (vi (nI (j + 1)))] [] h' := fun h' e1 c1 l1 f1 e2 => by
    rw [e2] at K
    exact K h' ⟨e1.trans hB, c1, l1, ip, fm.tr f1⟩
  have ipk := mdK_P hg hp hk ip
  refine wp_ok (cut := [16, 71]) ma_200 rfl 25 _ _ _ _ ?_
  show CalI true (d + 9) 193 [vr 233 0, vi (nI p), vi (nI j)] h σ.1 (fun x2 s1 => ((x2 = 0 → Sat true (d + 10) 200 σ.1 Q 16 [some (vr 233 0), some (vi (nI s.1)), some (vi (nI p)), some (vi ((nI j) + nI 1))] [] s1) ∧ (¬ x2 = 0 → CalV true (d + 9) 192 [vr 233 0, vi (nI p), vi (nI j)] s1 σ.1 (fun s3 => CalV true (d + 9) 196 [vr 233 0, vi (nI p), vi (hI s3 233 0 40), vi (hI s3 233 0 41)] s3 σ.1 (fun s4 => CalI true (d + 9) 197 [vr 233 0, vi (nI p), vi (nI j)] s4 σ.1 (fun x6 s5 => ((x6 = 0 → Sat true (d + 10) 200 σ.1 Q 16 [some (vr 233 0), some (vi (nI s.1)), some (vi (nI p)), some (vi ((nI j) + nI 1))] [] s5) ∧ (¬ x6 = 0 → ((¬ (nI s.1) = 0 → Sat true (d + 10) 200 σ.1 Q 71 [some (vr 233 0), some (vi (nI s.1)), some (vi (nI p)), some (vi (nI j))] [] s5) ∧ ((nI s.1) = 0 → CalV true (d + 9) 133 [vr 233 0] s5 σ.1 (fun s7 => Sat true (d + 10) 200 σ.1 Q 71 [some (vr 233 0), some (vi (nI s.1)), some (vi (nI p)), some (vi (nI j))] [] s7)))))))))))
  rw [addN]
  refine cp_i (m_ib d c hp hk) hB (fun h1 q1 e1 => brI (fun g => ?_) (fun g => ?_))
  · exact no h1 (e1.trans hB.symm) q1.1 q1.2.1 q1.2.2 (if_neg (fun w => by rw [w.1] at g; cases g))
  · refine cp_v (m_lr (d + 3) q1.1 hp hk g) e1 (fun h3 q3 e3 => ?_)
    obtain ⟨b1, b2⟩ := bx_I q3.1 hp hk
    have ga := hdAn_g q3.1.2.1.1 b1 (q3.1.2.1.2.1 _ b1).1 b2
    rw [q3.2.2.1.1, q3.2.2.1.2]
    refine cp_v (m_lt (d + 8) q3.1 q3.2.1 hp b1 b2) e3 (fun h4 q4 e4 => cal_i (m_ft (d + 8) q4.1 q4.2.1 hp hk q4.2.2.1 (tgW_len ga)) e4 ?_)
    have f4 : Fr MF h h4 := (q1.2.2.tr q3.2.2.2).tr q4.2.2.2
    have s71 : ∀ (D' : List DB) (h5 : Hp), lenX s.2.2.2 p k (wx s.2.2.2 p k) ≤ 160 → h5.1 = σ.1 → InM h5 n t D' s.2.2.2 → LdX h5 s.2.2.2.1 (XF s.2.2.2.1) → TgM h5 (wx s.2.2.2 p k) → Fr MF h h5 → mdK p k s = (s.1 + 1, (mdK p k s).2.1, D', wrX s.2.2.2 p k (wx s.2.2.2 p k)) → Sat true (d + 10) 200 σ.1 Q 71 [some (vr 233 0), some (vi (nI s.1)), some (vi (nI p)), some (vi (nI j))] [] h5 := by
      intro D' h5 hl e5 c5 l5 t5 f5 em
      refine wp_ok (cut := [16]) ma_200 rfl 9 _ _ _ _ ?_
      show CalV true (d + 9) 198 [vr 233 0, vi (nI p), vi (nI j)] h5 σ.1 (fun s1 => CalV true (d + 9) 157 [vr 233 0] s1 σ.1 (fun s2 => Sat true (d + 10) 200 σ.1 Q 16 [some (vr 233 0), some (vi ((nI s.1) + nI 1)), some (vi (nI p)), some (vi ((nI j) + nI 1))] [] s2))
      rw [addN, addN]
      refine cp_v (m_wt (d + 8) c5 ip.1 l5 hp hk b1 ga t5 hl) e5 (fun h6 q6 e6 => cp_v (m_la (d + 4) q6.1) e6 (fun h7 q7 e7 => ?_))
      have e1' : (mdK p k s).1 = s.1 + 1 := by rw [em]
      have e2' : (mdK p k s).2.2.1 = D' := by rw [em]
      have e3' : (mdK p k s).2.2.2 = wrX s.2.2.2 p k (wx s.2.2.2 p k) := by rw [em]
      rw [← e1']
      refine K h7 ⟨e7, ?_, ?_, ipk, ((fm.tr f5).tr q6.2.2).tr q7.2.2⟩
      · rw [e2', e3']; exact q7.1
      · rw [e3']; exact q7.2.1
    refine brI (fun g2 => ?_) (fun g2 => ?_)
    · exact no h4 (e4.trans hB.symm) q4.1 q4.2.1 f4 (if_neg (fun w => absurd w.2 (of_decide_eq_false g2)))
    · have hl : lenX s.2.2.2 p k (wx s.2.2.2 p k) ≤ 160 := of_decide_eq_true g2
      refine ⟨fun g3 => ?_, fun g3 => ?_⟩
      · have n0 : s.1 ≠ 0 := fun w => g3 (by rw [w]; rfl)
        have em : mdK p k s = (s.1 + 1, s.2.1, s.2.2.1, wrX s.2.2.2 p k (wx s.2.2.2 p k)) := by
          unfold mdK
          rw [if_pos ⟨g, hl⟩, if_neg n0]
        exact s71 s.2.2.1 h4 hl e4 q4.1 q4.2.1 q4.2.2.1 f4 (by rw [em])
      · have n0 : s.1 = 0 := by
          have g3 : nI s.1 = nI 0 := g3
          exact (eqN (by omega) (by omega)).mp g3
        have em : mdK p k s = (s.1 + 1, kpM s.2.1 s.2.2.1, nxD s.2.2.1 s.2.2.2, wrX s.2.2.2 p k (wx s.2.2.2 p k)) := by
          unfold mdK
          rw [if_pos ⟨g, hl⟩, if_pos n0]
        exact cp_v (m_pd (d + 9) q4.1 q4.2.1 q4.2.2.1) e4 (fun h5 q5 e5 => s71 _ h5 hl e5 q5.1 q5.2.1 q5.2.2.1 (f4.tr q5.2.2.2) (by rw [em]))
theorem m_mendAll (d : Nat) {m : Nat} {D : List DB} {x : DB} (c : InM σ n t D x) (ip : InP D x) : PI (d + 10) 200 [vr 233 0] σ (nI (mdA 12 0 (0, m, D, x)).1) (fun h => InM h n t (mdA 12 0 (0, m, D, x)).2.2.1 (mdA 12 0 (0, m, D, x)).2.2.2 ∧ Fr MF σ h) := by
  obtain ⟨E, eE⟩ : ∃ E, E = mdA 12 0 (0, m, D, x) := ⟨_, rfl⟩
  rw [← eE]
  refine PI_of mt_200 (Nat.le_of_ble_eq_true rfl) fun Q hq => ?_
  have inner : ∀ (p : Nat), p < 12 → ∀ (f j : Nat) (s : MSt) (h : Hp), j + f = 41 → MdS σ n t s h → s.1 ≤ 41 * p + j → (∀ h', MdS σ n t (mdP p f j s) h' → ∀ x3 : Option AV, Sat true (d + 10) 200 σ.1 Q 90 [some (vr 233 0), some (vi (nI (mdP p f j s).1)), some (vi (nI p)), x3] [] h') → Sat true (d + 10) 200 σ.1 Q 16 [some (vr 233 0), some (vi (nI s.1)), some (vi (nI p)), some (vi (nI j))] [] h := by
    intro p hp f
    induction f with
    | zero =>
      intro j s h hj hc hb K
      have hg := hc.2.1.2.1.1
      have b2 := lkPg_b p (ls := s.2.2.2.1 p) 0 (hg p hp).1
      have b3 := (hg p hp).2
      have e8 : hI h 253 0 p = nI (lkPg p 0 (s.2.2.2.1 p)).length := (hc.2.2.1.2 p hp).1.2.2.2.2.2.1
      refine wp_ok (cut := [16, 26, 90]) ma_200 rfl 6 _ _ _ _ ?_
      show (vp_in (nI p) 12 ∧ (((hI h 253 0 ((nI p).toNatClampNeg)) ≤ (nI j) → Sat true (d + 10) 200 σ.1 Q 90 [some (vr 233 0), some (vi (nI s.1)), some (vi (nI p)), some (vi (nI j))] [] h) ∧ (¬ (hI h 253 0 ((nI p).toNatClampNeg)) ≤ (nI j) → Sat true (d + 10) 200 σ.1 Q 26 [some (vr 233 0), some (vi (nI s.1)), some (vi (nI p)), some (vi (nI j))] [] h)))
      rw [ix (by omega), e8]
      exact ⟨inb (by omega) (by omega), br_le (by omega) (by omega) (fun _ => K h hc _) (fun g => by omega)⟩
    | succ f ih =>
      intro j s h hj hc hb K
      have hg := hc.2.1.2.1.1
      have b2 := lkPg_b p (ls := s.2.2.2.1 p) 0 (hg p hp).1
      have b3 := (hg p hp).2
      have e8 : hI h 253 0 p = nI (lkPg p 0 (s.2.2.2.1 p)).length := (hc.2.2.1.2 p hp).1.2.2.2.2.2.1
      unfold mdP at K
      by_cases hl : j < (lkPg p 0 (s.2.2.2.1 p)).length
      · rw [if_pos hl] at K
        have hk : (lkPg p 0 (s.2.2.2.1 p))[j]? = some (lkPg p 0 (s.2.2.2.1 p))[j] := List.getElem?_eq_getElem hl
        have eS : mdS p j s = mdK p (lkPg p 0 (s.2.2.2.1 p))[j] s := by
          unfold mdS
          rw [hk]
        rw [eS] at K
        have mk := mdK_m p (lkPg p 0 (s.2.2.2.1 p))[j] s
        refine wp_ok (cut := [16, 26, 90]) ma_200 rfl 6 _ _ _ _ ?_
        show (vp_in (nI p) 12 ∧ (((hI h 253 0 ((nI p).toNatClampNeg)) ≤ (nI j) → Sat true (d + 10) 200 σ.1 Q 90 [some (vr 233 0), some (vi (nI s.1)), some (vi (nI p)), some (vi (nI j))] [] h) ∧ (¬ (hI h 253 0 ((nI p).toNatClampNeg)) ≤ (nI j) → Sat true (d + 10) 200 σ.1 Q 26 [some (vr 233 0), some (vi (nI s.1)), some (vi (nI p)), some (vi (nI j))] [] h)))
        rw [ix (by omega), e8]
        exact ⟨inb (by omega) (by omega), br_le (by omega) (by omega) (fun g => by omega) (fun _ => s_mstep hc hp hk (by omega) (fun h' k' => ih (j + 1) _ h' (by omega) k' (by omega) K))⟩
      · rw [if_neg hl] at K
        refine wp_ok (cut := [16, 26, 90]) ma_200 rfl 6 _ _ _ _ ?_
        show (vp_in (nI p) 12 ∧ (((hI h 253 0 ((nI p).toNatClampNeg)) ≤ (nI j) → Sat true (d + 10) 200 σ.1 Q 90 [some (vr 233 0), some (vi (nI s.1)), some (vi (nI p)), some (vi (nI j))] [] h) ∧ (¬ (hI h 253 0 ((nI p).toNatClampNeg)) ≤ (nI j) → Sat true (d + 10) 200 σ.1 Q 26 [some (vr 233 0), some (vi (nI s.1)), some (vi (nI p)), some (vi (nI j))] [] h)))
        rw [ix (by omega), e8]
        exact ⟨inb (by omega) (by omega), br_le (by omega) (by omega) (fun _ => K h hc _) (fun g => absurd g hl)⟩
  have outer : ∀ (f p : Nat) (s : MSt) (h : Hp), p + f = 12 → h.1 = σ.1 → InM h n t s.2.2.1 s.2.2.2 → InP s.2.2.1 s.2.2.2 → Fr MF σ h → s.1 ≤ 41 * p → mdA f p s = E → ∀ x3 : Option AV, Sat true (d + 10) 200 σ.1 Q 4 [some (vr 233 0), some (vi (nI s.1)), some (vi (nI p)), x3] [] h := by
    intro f
    induction f with
    | zero =>
      intro p s h hp e0 c0 ip0 fm0 hb he x3
      have he0 : s = E := he
      have hp : p = 12 := hp
      subst hp
      refine Sat_no 3 ?_
      show Sat true (d + 10) 200 σ.1 Q 4 [some (vr 233 0), some (vi (nI s.1)), some (vi (nI 12)), none] [] h
      refine wp_ok (cut := [16]) ma_200 rfl 7 _ _ _ _ ?_
      show (((nI 12) ≤ (nI 12) → (Q (some (vi (nI s.1))) h ∧ h.1 = σ.1)) ∧ (¬ (nI 12) ≤ (nI 12) → CalV true (d + 9) 157 [vr 233 0] h σ.1 (fun s1 => Sat true (d + 10) 200 σ.1 Q 16 [some (vr 233 0), some (vi (nI s.1)), some (vi (nI 12)), some (vi (nI 0))] [] s1)))
      rw [he0] at c0 ⊢
      exact br_le (by omega) (by omega) (fun _ => ⟨hq h ⟨c0, fm0⟩, e0⟩) (fun g => by omega)
    | succ f ih =>
      intro p s h hp e0 c0 ip0 fm0 hb he x3
      have he : mdA f (p + 1) (mdP p 41 0 s) = E := he
      have b := (mdP_m p 41 0 s).2
      refine Sat_no 3 ?_
      show Sat true (d + 10) 200 σ.1 Q 4 [some (vr 233 0), some (vi (nI s.1)), some (vi (nI p)), none] [] h
      refine wp_ok (cut := [16]) ma_200 rfl 7 _ _ _ _ ?_
      show (((nI 12) ≤ (nI p) → (Q (some (vi (nI s.1))) h ∧ h.1 = σ.1)) ∧ (¬ (nI 12) ≤ (nI p) → CalV true (d + 9) 157 [vr 233 0] h σ.1 (fun s1 => Sat true (d + 10) 200 σ.1 Q 16 [some (vr 233 0), some (vi (nI s.1)), some (vi (nI p)), some (vi (nI 0))] [] s1)))
      refine br_le (by omega) (by omega) (fun g => by omega) (fun _ => cp_v (m_la (d + 4) c0) e0 (fun h1 q1 e1 => inner p (by omega) 41 0 s h1 (by omega) ⟨e1, q1.1, q1.2.1, ip0, fm0.tr q1.2.2⟩ (by omega) (fun h' k' x3 => ?_)))
      have nx := fun x3 => ih (p + 1) (mdP p 41 0 s) h' (by omega) k'.1 k'.2.1 k'.2.2.2.1 k'.2.2.2.2 (by omega) he x3
      refine Sat_no 3 ?_
      show Sat true (d + 10) 200 σ.1 Q 90 [some (vr 233 0), some (vi (nI (mdP p 41 0 s).1)), some (vi (nI p)), none] [] h'
      refine wp_ok (cut := [4]) ma_200 rfl 2 _ _ _ _ ?_
      show Sat true (d + 10) 200 σ.1 Q 4 [some (vr 233 0), some (vi (nI (mdP p 41 0 s).1)), some (vi ((nI p) + nI 1)), none] [] h'
      rw [addN]
      exact nx none
  refine wp_ok (cut := [4]) ma_200 rfl 4 _ _ _ _ ?_
  show Sat true (d + 10) 200 σ.1 Q 4 [some (vr 233 0), some (vi (nI 0)), some (vi (nI 0)), none] [] σ
  exact outer 12 0 (0, m, D, x) σ (by omega) rfl c ip (Fr.rfl' _ _) (Nat.zero_le _) eE.symm none
end
theorem mdK_b {p : Nat} {k : Lk} {s : MSt} (h : s.2.1 ≤ 10 ∧ s.2.2.1.length ≤ 10) : (mdK p k s).2.1 ≤ 10 ∧ (mdK p k s).2.2.1.length ≤ 10 := by
  have c := capD_len h.2
  unfold mdK
  split
  · split
    · refine ⟨?_, ?_⟩
      · show kpM s.2.1 s.2.2.1 ≤ 10
        unfold kpM
        split <;> omega
      · show (capD s.2.2.1 ++ [s.2.2.2]).length ≤ 10
        rw [List.length_append]
        show (capD s.2.2.1).length + 1 ≤ 10
        omega
    · exact h
  · exact h
theorem mdP_b (p : Nat) : ∀ (f j : Nat) (s : MSt), (s.2.1 ≤ 10 ∧ s.2.2.1.length ≤ 10) → (mdP p f j s).2.1 ≤ 10 ∧ (mdP p f j s).2.2.1.length ≤ 10 := by
  intro f
  induction f with
  | zero => intro j s h; exact h
  | succ f ih =>
    intro j s h
    unfold mdP
    split
    · refine ih _ _ ?_
      unfold mdS
      split
      · exact h
      · exact mdK_b h
    · exact h
theorem mdA_b : ∀ (f p : Nat) (s : MSt), (s.2.1 ≤ 10 ∧ s.2.2.1.length ≤ 10) → (mdA f p s).2.1 ≤ 10 := by
  intro f
  induction f with
  | zero => intro p s h; exact h.1
  | succ f ih => intro p s h; exact ih (p + 1) _ (mdP_b p 41 0 s h)
theorem op_mendAll : OpOK 89 200 [] := by
  intro L m n t D x hp
  exact ⟨_, (mdA 12 0 (0, m, D, x)).2.1, n, t, (mdA 12 0 (0, m, D, x)).2.2.1, (mdA 12 0 (0, m, D, x)).2.2.2, ⟨mdA_m 12 0 (0, m, D, x), fun hm => mdA_b 12 0 (0, m, D, x) ⟨hm, hp.2.2.1⟩⟩, fun σ hB k => e_mendAll 27 hB k hp, fun σ k _ => m_mendAll 25 k hp⟩
