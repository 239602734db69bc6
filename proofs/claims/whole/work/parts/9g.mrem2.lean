/-! the model: remember -/
section
variable {σ : Hp} {P : Nat → List Line} {X : Nat → XA} {rs : List (Pl × Pl)} {es : List En}
theorem LdX_me {h : Hp} (hP : gP P) (hX : ∀ p, p < 12 → XFin P p (X p) ∧ (X p).2.2.1.length ≤ 100) (f : FrM SMe σ h) (ld : LdX σ P X) : LdX h P X := LdX_fr hP hX f (fun p f k _ w => by unfold Reg at w; unfold SMe; omega) (by unfold SMe; omega) ld
set_option maxRecDepth 6000 in
/-- an entry is put down at the end -/
theorem s_rem74 {Q : Option AV → Hp → Prop} {d p s j : Nat} {y : Hd} {z : Nat × Nat} {e0 : List En} {h : Hp} (hp : p < 12) (hj : j < 100) (hs54 : s < 54) (he : EnsM h e0) (hl : e0.length ≤ 39) (f : FrM SMe σ h) (h248 : hI h 248 0 (54 * p + s) = nI z.2) (hz : z.2 < 1000003) (gy : gAnc y.2.2.1) (hrow : RowA (hI h 245 0) (12 * (100 * p + j)) (txAnc y.2.2.1)) (kq : ∀ h, EnsM h (e0 ++ [(p, y.2.2.1, z.2)]) → FrM SMe σ h → Sat true (d + 7) 136 σ.1 Q 6 [some (vr 233 0), some (vi (nI p)), some (vi (nI (s + 1))), none, none, none] [] h) : Sat true (d + 7) 136 σ.1 Q 74 [some (vr 233 0), some (vi (nI p)), some (vi (nI s)), some (vi (nI j)), none, none] [] h := by
  obtain ⟨r1, r2, r3⟩ := he
  have loop : ∀ (n k : Nat) (h' : Hp), k + n = 12 → FrM SMe σ h' → hI h' 235 0 2829 = nI e0.length → hI h' 235 0 (2269 + 14 * e0.length) = nI p → hI h' 235 0 (2269 + 14 * e0.length + 1) = nI z.2 → hI h' 245 0 = hI h 245 0 → (∀ i, 2269 ≤ i → i < 2269 + 14 * e0.length → hI h' 235 0 i = hI h 235 0 i) → (∀ i, i < k → hI h' 235 0 (2269 + 14 * e0.length + 2 + i) = hI h 245 0 (12 * (100 * p + j) + i)) → Sat true (d + 7) 136 σ.1 Q 122 [some (vr 233 0), some (vi (nI p)), some (vi (nI s)), some (vi (nI j)), some (vi (nI (2269 + 14 * e0.length))), some (vi (nI k))] [] h' := by
    intro n
    induction n with
    | zero =>
      intro k h' hk f' z0 z1 z2 e245 a1 a2
      refine wp_ok (cut := [6, 122]) ma_136 rfl 21 _ _ _ _ ?_
      show (((nI 12) ≤ (nI k) → (vp_in (nI 2829) 2830 ∧ (vp_in (nI 2829) 2830 ∧ Sat true (d + 7) 136 σ.1 Q 6 [some (vr 233 0), some (vi (nI p)), some (vi ((nI s) + nI 1)), some (vi (nI j)), some (vi (nI (2269 + 14 * e0.length))), some (vi (nI k))] [] (setI h' 235 0 2829 ((hI h' 235 0 2829) + (nI 1)))))) ∧ (¬ (nI 12) ≤ (nI k) → CalI true (d + 6) 144 [vi (nI p), vi (nI j)] h' σ.1 (fun x2 s1 => (vp_in (x2 + (nI k)) 20448 ∧ (vp_in (((nI (2269 + 14 * e0.length)) + (nI 2)) + (nI k)) 2830 ∧ Sat true (d + 7) 136 σ.1 Q 122 [some (vr 233 0), some (vi (nI p)), some (vi (nI s)), some (vi (nI j)), some (vi (nI (2269 + 14 * e0.length))), some (vi ((nI k) + nI 1))] [] (setI s1 235 0 ((((nI (2269 + 14 * e0.length)) + (nI 2)) + (nI k)).toNatClampNeg) (hI s1 245 0 ((x2 + (nI k)).toNatClampNeg))))))))
      have i1 : vp_in (nI 2829) 2830 := inb (by omega) (by omega)
      rw [z0, addN, addN]
      refine br_le (by omega) (by omega) (fun _ => ⟨i1, i1, Sat_no 3 (Sat_no 4 (Sat_no 5 (kq _ ⟨?_, ?_, ?_⟩ (f'.sI (f := 235) ⟨rfl, by omega, by omega⟩ _))))⟩) (fun g => by omega)
      · rw [hI_s, List.length_append]
        rfl
      · rw [List.length_append]
        show e0.length + 1 ≤ 40
        omega
      · refine All_snoc r3 (fun i w hi c => EnM_mv (fun k hk => by rw [hI_k _ _ _ _ (by omega), a1 _ (by omega) (by omega)]) c) ⟨?_, ?_, ⟨?_, fun i hi => ?_⟩, hp, gy, hz⟩
        · rw [hI_k _ _ _ _ (by omega)]
          exact z1
        · rw [hI_k _ _ _ _ (by omega)]
          exact z2
        · rw [hI_k _ _ _ _ (by omega)]
          have := a2 0 (by omega)
          rw [Nat.add_zero, Nat.add_zero] at this
          rw [this]
          exact hrow.1
        · rw [hI_k _ _ _ _ (by omega)]
          have := a2 (1 + i) (by omega)
          rw [show 2269 + 14 * e0.length + 2 + 1 + i = 2269 + 14 * e0.length + 2 + (1 + i) by omega, this, show 12 * (100 * p + j) + (1 + i) = 12 * (100 * p + j) + 1 + i by omega]
          exact hrow.2 i hi
    | succ n ih =>
      intro k h' hk f' z0 z1 z2 e245 a1 a2
      refine wp_ok (cut := [6, 122]) ma_136 rfl 21 _ _ _ _ ?_
      show (((nI 12) ≤ (nI k) → (vp_in (nI 2829) 2830 ∧ (vp_in (nI 2829) 2830 ∧ Sat true (d + 7) 136 σ.1 Q 6 [some (vr 233 0), some (vi (nI p)), some (vi ((nI s) + nI 1)), some (vi (nI j)), some (vi (nI (2269 + 14 * e0.length))), some (vi (nI k))] [] (setI h' 235 0 2829 ((hI h' 235 0 2829) + (nI 1)))))) ∧ (¬ (nI 12) ≤ (nI k) → CalI true (d + 6) 144 [vi (nI p), vi (nI j)] h' σ.1 (fun x2 s1 => (vp_in (x2 + (nI k)) 20448 ∧ (vp_in (((nI (2269 + 14 * e0.length)) + (nI 2)) + (nI k)) 2830 ∧ Sat true (d + 7) 136 σ.1 Q 122 [some (vr 233 0), some (vi (nI p)), some (vi (nI s)), some (vi (nI j)), some (vi (nI (2269 + 14 * e0.length))), some (vi ((nI k) + nI 1))] [] (setI s1 235 0 ((((nI (2269 + 14 * e0.length)) + (nI 2)) + (nI k)).toNatClampNeg) (hI s1 245 0 ((x2 + (nI k)).toNatClampNeg))))))))
      refine br_le (by omega) (by omega) (fun g => by omega) (fun _ => cal_i (m_anchorAt (d + 6) h' p j) f'.1 ?_)
      rw [addN, addN, addN, addN, ix (by omega), ix (by omega), e245]
      refine ⟨inb (by omega) (by omega), inb (by omega) (by omega), ih (k + 1) _ (by omega) (f'.sI (f := 235) ⟨rfl, by omega, by omega⟩ _) ?_ ?_ ?_ ?_ (fun i h1 h2 => ?_) (fun i hi => ?_)⟩
      · rw [hI_k _ _ _ _ (by omega)]
        exact z0
      · rw [hI_k _ _ _ _ (by omega)]
        exact z1
      · rw [hI_k _ _ _ _ (by omega)]
        exact z2
      · rw [hI_f _ _ _ (by omega)]
        exact e245
      · rw [hI_k _ _ _ _ (by omega)]
        exact a1 i h1 h2
      · by_cases c : i = k
        · rw [c, hI_s]
        · rw [hI_k _ _ _ _ (by omega)]
          exact a2 i (by omega)
  refine wp_ok (cut := [6, 122]) ma_136 rfl 30 _ _ _ _ ?_
  show (vp_in (nI 2829) 2830 ∧ (vp_in ((nI 2269) + ((nI 14) * (hI h 235 0 2829))) 2830 ∧ (vp_in (((nI 54) * (nI p)) + (nI s)) 648 ∧ (vp_in (((nI 2269) + ((nI 14) * (hI h 235 0 2829))) + (nI 1)) 2830 ∧ Sat true (d + 7) 136 σ.1 Q 122 [some (vr 233 0), some (vi (nI p)), some (vi (nI s)), some (vi (nI j)), some (vi ((nI 2269) + ((nI 14) * (hI h 235 0 2829)))), some (vi (nI 0))] [] (setI (setI h 235 0 (((nI 2269) + ((nI 14) * (hI h 235 0 2829))).toNatClampNeg) (nI p)) 235 0 ((((nI 2269) + ((nI 14) * (hI h 235 0 2829))) + (nI 1)).toNatClampNeg) (hI h 248 0 ((((nI 54) * (nI p)) + (nI s)).toNatClampNeg)))))))
  rw [r1, mulN, mulN, addN, addN, addN, ix (by omega), ix (by omega), ix (by omega), h248]
  refine ⟨inb (by omega) (by omega), inb (by omega) (by omega), inb (by omega) (by omega), inb (by omega) (by omega), loop 12 0 _ (by omega) ((f.sI (f := 235) ⟨rfl, by omega, by omega⟩ _).sI (f := 235) ⟨rfl, by omega, by omega⟩ _) ?_ ?_ ?_ ?_ (fun i h1 h2 => ?_) (fun i hi => absurd hi (Nat.not_lt_zero _))⟩
  · rw [hI_k _ _ _ _ (by omega), hI_k _ _ _ _ (by omega)]
    exact r1
  · rw [hI_k _ _ _ _ (by omega), hI_s]
  · rw [hI_s]
  · rw [hI_f _ _ _ (by omega), hI_f _ _ _ (by omega)]
  · rw [hI_k _ _ _ _ (by omega), hI_k _ _ _ _ (by omega)]
def SRm (f k : Nat) : Prop := SLay f k ∨ SMe f k
set_option maxRecDepth 6000 in
theorem m_remember (d : Nat) (ms : MS σ P X rs es) (hu : EnU es) {p : Nat} (hp : p < 12) : PV (d + 7) 136 [vr 233 0, vi (nI p)] σ (fun h => MS h P X rs (remE P X p (secs (P p)).length es) ∧ LdX h P X ∧ FrM SRm σ h) := by
  refine PV_of mt_136 (Nat.le_of_ble_eq_true rfl) fun Q hq => ?_
  refine wp_ok (cut := [6]) ma_136 rfl 4 _ _ _ _ ?_
  show CalV true (d + 6) 157 [vr 233 0] σ σ.1 (fun s1 => Sat true (d + 7) 136 σ.1 Q 6 [some (vr 233 0), some (vi (nI p)), some (vi (nI 0)), none, none, none] [] s1)
  refine cp_v (m_lay (d + 1) ms) rfl (fun h1 q1 e1 => ?_)
  obtain ⟨l1, l2, l3, l4, _⟩ := (q1.2.1.2 p hp).1
  have b54 := (bds ms.1 hp).1
  have hdi := (XFin_hd ms.1 hp (ms.2.1 p hp).1).2.2
  have h100 := (ms.2.1 p hp).2
  have loop : ∀ (n j : Nat) (h : Hp), j + n = (secs (P p)).length → EnsM h (remE P X p j es) → FrM SMe h1 h → Sat true (d + 7) 136 σ.1 Q 6 [some (vr 233 0), some (vi (nI p)), some (vi (nI j)), none, none, none] [] h := by
    intro n
    induction n with
    | zero =>
      intro j h hj k1 f
      have hj : j = (secs (P p)).length := hj
      subst hj
      have e247 : hI h 247 0 p = nI (secs (P p)).length := by rw [f.2.2.2 247 0 p (fun w => by have := w.2.1; omega)]; exact l3
      have ld := LdX_me ms.1 ms.2.1 f q1.2.1
      have fr235 : ∀ k, k < 2269 → hI h 235 0 k = hI h1 235 0 k := fun k hk => f.2.2.2 235 0 k fun w => by have := w.2.2.1; omega
      have ms' : MS h P X rs (remE P X p (secs (P p)).length es) := by
        obtain ⟨m1, m2, m3, m4, m5, m6⟩ := q1.1
        refine ⟨m1, m2, fun q hq => ?_, LdX_is ms.2.1 ld, ?_, k1⟩
        · obtain ⟨s1, s2, s3, s4⟩ := m3 q hq
          exact ⟨s1, s2, by rw [fr235 _ (by omega)]; exact s3, Tx_cong s4 fun k a b => fr235 k (by omega)⟩
        · obtain ⟨t1, t2, t3⟩ := m5
          refine ⟨by rw [fr235 _ (by omega)]; exact t1, t2, fun i y hy => ?_⟩
          have hi := All_lt hy
          obtain ⟨u1, u2, u3⟩ := t3 i y hy
          have rp : ∀ o pg w, o + 14 ≤ 2268 → RowP (hI h1 235 0) o pg w → RowP (hI h 235 0) o pg w := fun o pg w ho c => ⟨by rw [fr235 _ (by omega)]; exact c.1, by rw [fr235 _ (by omega)]; exact c.2.1, RowA_cong c.2.2 fun k a b => fr235 k (by omega)⟩
          exact ⟨rp _ _ _ (by omega) u1, rp _ _ _ (by omega) u2, u3⟩
      refine wp_ok (cut := [6, 46, 172]) ma_136 rfl 26 _ _ _ _ ?_
      show (vp_in (nI p) 12 ∧ (((hI h 247 0 ((nI p).toNatClampNeg)) ≤ (nI (secs (P p)).length) → (Q none h ∧ h.1 = σ.1)) ∧ (¬ (hI h 247 0 ((nI p).toNatClampNeg)) ≤ (nI (secs (P p)).length) → (vp_in (((nI 54) * (nI p)) + (nI (secs (P p)).length)) 648 ∧ (((hI h 249 0 ((((nI 54) * (nI p)) + (nI (secs (P p)).length)).toNatClampNeg)) < 0 → Sat true (d + 7) 136 σ.1 Q 172 [some (vr 233 0), some (vi (nI p)), some (vi (nI (secs (P p)).length)), some (vi (hI h 249 0 ((((nI 54) * (nI p)) + (nI (secs (P p)).length)).toNatClampNeg))), none, none] [] h) ∧ (¬ (hI h 249 0 ((((nI 54) * (nI p)) + (nI (secs (P p)).length)).toNatClampNeg)) < 0 → (vp_in (((nI 54) * (nI p)) + (nI (secs (P p)).length)) 648 ∧ (((hI h 250 0 ((((nI 54) * (nI p)) + (nI (secs (P p)).length)).toNatClampNeg)) ≤ 0 → Sat true (d + 7) 136 σ.1 Q 172 [some (vr 233 0), some (vi (nI p)), some (vi (nI (secs (P p)).length)), some (vi (hI h 249 0 ((((nI 54) * (nI p)) + (nI (secs (P p)).length)).toNatClampNeg))), none, none] [] h) ∧ (¬ (hI h 250 0 ((((nI 54) * (nI p)) + (nI (secs (P p)).length)).toNatClampNeg)) ≤ 0 → Sat true (d + 7) 136 σ.1 Q 46 [some (vr 233 0), some (vi (nI p)), some (vi (nI (secs (P p)).length)), some (vi (hI h 249 0 ((((nI 54) * (nI p)) + (nI (secs (P p)).length)).toNatClampNeg))), none, none] [] h)))))))))
      rw [ix (by omega), e247]
      exact ⟨inb hp (by omega), fun _ => ⟨hq h ⟨ms', ld, (q1.2.2.mo fun f k w => Or.inl w).tr (f.mo fun f k w => Or.inr w)⟩, f.1.trans e1⟩, fun g => absurd (Int32.le_refl _) g⟩
    | succ n ih =>
      intro j h hj k1 f
      have hB : h.1 = σ.1 := f.1.trans e1
      have hjl : j < (secs (P p)).length := by omega
      have hs : (secs (P p))[j]? = some (secs (P p))[j] := List.getElem?_eq_getElem hjl
      obtain ⟨sx1, sx2, sx3⟩ := l4 j _ hs
      have fr : ∀ g k, g ≠ 235 → hI h g 0 k = hI h1 g 0 k := fun g k hg => f.2.2.2 g 0 k fun w => hg w.2.1
      have e247 : hI h 247 0 p = nI (secs (P p)).length := by rw [fr 247 p (by omega)]; exact l3
      have sb := secs_bd (List.mem_of_getElem? hs)
      have l80 := txPg_len (ms.1 p hp).1
      have l160 := (ms.1 p hp).2
      have nx : ∀ h', EnsM h' (stE P X p j (remE P X p j es)) → FrM SMe h1 h' → Sat true (d + 7) 136 σ.1 Q 6 [some (vr 233 0), some (vi (nI p)), some (vi (nI (j + 1))), none, none, none] [] h' := fun h' a b => ih (j + 1) h' (by omega) a b
      unfold stE at nx
      rw [hs] at nx
      have s172 : ∀ x3 : Int32, EnsM h (stE P X p j (remE P X p j es)) → Sat true (d + 7) 136 σ.1 Q 172 [some (vr 233 0), some (vi (nI p)), some (vi (nI j)), some (vi x3), none, none] [] h := by
        intro x3 a
        have k := ih (j + 1) h (by omega) a f
        refine wp_ok (cut := [6]) ma_136 rfl 2 _ _ _ _ ?_
        show Sat true (d + 7) 136 σ.1 Q 6 [some (vr 233 0), some (vi (nI p)), some (vi ((nI j) + nI 1)), some (vi x3), none, none] [] h
        rw [addN]
        exact Sat_no 3 k
      refine wp_ok (cut := [6, 46, 172]) ma_136 rfl 26 _ _ _ _ ?_
      show (vp_in (nI p) 12 ∧ (((hI h 247 0 ((nI p).toNatClampNeg)) ≤ (nI j) → (Q none h ∧ h.1 = σ.1)) ∧ (¬ (hI h 247 0 ((nI p).toNatClampNeg)) ≤ (nI j) → (vp_in (((nI 54) * (nI p)) + (nI j)) 648 ∧ (((hI h 249 0 ((((nI 54) * (nI p)) + (nI j)).toNatClampNeg)) < 0 → Sat true (d + 7) 136 σ.1 Q 172 [some (vr 233 0), some (vi (nI p)), some (vi (nI j)), some (vi (hI h 249 0 ((((nI 54) * (nI p)) + (nI j)).toNatClampNeg))), none, none] [] h) ∧ (¬ (hI h 249 0 ((((nI 54) * (nI p)) + (nI j)).toNatClampNeg)) < 0 → (vp_in (((nI 54) * (nI p)) + (nI j)) 648 ∧ (((hI h 250 0 ((((nI 54) * (nI p)) + (nI j)).toNatClampNeg)) ≤ 0 → Sat true (d + 7) 136 σ.1 Q 172 [some (vr 233 0), some (vi (nI p)), some (vi (nI j)), some (vi (hI h 249 0 ((((nI 54) * (nI p)) + (nI j)).toNatClampNeg))), none, none] [] h) ∧ (¬ (hI h 250 0 ((((nI 54) * (nI p)) + (nI j)).toNatClampNeg)) ≤ 0 → Sat true (d + 7) 136 σ.1 Q 46 [some (vr 233 0), some (vi (nI p)), some (vi (nI j)), some (vi (hI h 249 0 ((((nI 54) * (nI p)) + (nI j)).toNatClampNeg))), none, none] [] h)))))))))
      rw [ix (by omega), e247, mulN, addN, ix (by omega), fr 249 _ (by omega), fr 250 _ (by omega), sx3, sx1, hoF_neg h100]
      have i1 : vp_in (nI (54 * p + j)) 648 := inb (by omega) (by omega)
      refine ⟨inb hp (by omega), br_le (by omega) (by omega) (fun g => by omega) (fun _ => ⟨i1, ?_⟩)⟩
      rcases rm_c hdi j with ⟨c1, c2⟩ | ⟨i, y, c0, c1, c2⟩
      · refine ⟨fun _ => s172 _ ?_, fun g => absurd c2 g⟩
        unfold stE
        rw [hs, c1]
        exact k1
      · have hi := All_lt c0
        obtain ⟨y1, y2, y3, y4, y5, y6⟩ := l2 i y c0
        rw [c2]
        rw [c1] at nx
        refine ⟨fun g => absurd g (n6 (by omega)), fun _ => ⟨i1, br_le (b := 0) (by omega) (by omega) (fun g => s172 _ ?_) (fun g => ?_)⟩⟩
        · unfold stE
          rw [hs, c1]
          show EnsM h (if 0 < (secs (P p))[j].1 then _ else _)
          rw [if_neg (by omega)]
          exact k1
        · have nx : ∀ h', EnsM h' (if 0 < (secs (P p))[j].1 then addE (remE P X p j es) (p, y.2.2.1, (secs (P p))[j].2) else remE P X p j es) → FrM SMe h1 h' → Sat true (d + 7) 136 σ.1 Q 6 [some (vr 233 0), some (vi (nI p)), some (vi (nI (j + 1))), none, none, none] [] h' := nx
          rw [if_pos g] at nx
          have fg := m_forget (σ := h) (d + 5) (p := p) (t := 12 * (100 * p + i)) k1 hp (by omega) y5 (RowA_cong y3 fun k _ _ => fr 245 k (by omega))
          have el : (erE (p, some y.2.2.1) (remE P X p j es)).length ≤ 40 := Nat.le_trans (erE_len _ _) k1.2.1
          have last : ∀ h', EnsM h' (capE (erE (p, some y.2.2.1) (remE P X p j es))) → FrM SMe h1 h' → Sat true (d + 7) 136 σ.1 Q 74 [some (vr 233 0), some (vi (nI p)), some (vi (nI j)), some (vi (nI i)), none, none] [] h' := by
            intro h' a b
            have fr' : ∀ g k, g ≠ 235 → hI h' g 0 k = hI h1 g 0 k := fun g k hg => b.2.2.2 g 0 k fun w => hg w.2.1
            have k := s_rem74 (σ := h1) (Q := Q) (d := d) (p := p) (s := j) (j := i) (y := y) (z := (secs (P p))[j]) (e0 := capE (erE (p, some y.2.2.1) (remE P X p j es))) (h := h') hp (by omega) (by omega) a (capE_len el) b (by rw [fr' 248 _ (by omega)]; exact sx2) sb.2 y5 (RowA_cong y3 fun k _ _ => fr' 245 k (by omega)) (fun h2 a2 b2 => by
              have := nx h2 a2 b2
              rw [e1]
              exact this)
            rw [e1] at k
            exact k
          refine wp_ok (cut := [6, 74]) ma_136 rfl 15 _ _ _ _ ?_
          show CalI true (d + 6) 144 [vi (nI p), vi (nI i)] h σ.1 (fun x2 s1 => CalV true (d + 6) 138 [vr 233 0, vi (nI p), vi x2] s1 σ.1 (fun s3 => (vp_in (nI 2829) 2830 ∧ ((¬ (hI s3 235 0 2829) = (nI 40) → Sat true (d + 7) 136 σ.1 Q 74 [some (vr 233 0), some (vi (nI p)), some (vi (nI j)), some (vi (nI i)), none, none] [] s3) ∧ ((hI s3 235 0 2829) = (nI 40) → CalV true (d + 6) 137 [vr 233 0, vi (nI 0)] s3 σ.1 (fun s4 => Sat true (d + 7) 136 σ.1 Q 74 [some (vr 233 0), some (vi (nI p)), some (vi (nI j)), some (vi (nI i)), none, none] [] s4))))))
          refine cal_i (m_anchorAt (d + 6) h p i) hB (cp_v fg hB (fun h2 q2 e2 => ⟨inb (by omega) (by omega), ?_⟩))
          have q21 := q2.1.1
          have f2 : FrM SMe h1 h2 := f.tr q2.2
          rw [q21]
          refine br_ne (by omega) (by omega) (fun w => last h2 ?_ f2) (fun w => cp_v (m_dropEntry (d + 6) (r := 0) q2.1 (by omega)) e2 (fun h3 q3 e3 => last h3 ?_ (f2.tr q3.2)))
          · have e : capE (erE (p, some y.2.2.1) (remE P X p j es)) = erE (p, some y.2.2.1) (remE P X p j es) := if_neg (by omega)
            rw [e]
            exact q2.1
          · have e : capE (erE (p, some y.2.2.1) (remE P X p j es)) = (erE (p, some y.2.2.1) (remE P X p j es)).eraseIdx 0 := if_pos (by omega)
            rw [e]
            exact q3.1
  exact loop (secs (P p)).length 0 h1 (by omega) q1.1.2.2.2.2.2 (FrM.rfl' _ _)
end
