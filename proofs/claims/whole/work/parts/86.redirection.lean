/-! redirection, count -/
theorem rtGo_u {P : Nat → List Line} {X : Nat → XA} {rs : List (Pl × Pl)} (hl : rs.length ≤ 12) (hr : ∀ (k : Nat) (y : Pl × Pl), rs[k]? = some y → gPl y.1 ∧ gPl y.2) : ∀ (f : Nat) (seen : List Pl) (us : List Nat) (x : Pl), gPl x → (∀ u ∈ us, u < 12) → ∀ u ∈ (rtGo P X rs f seen us x).2.2.2, u < 12 := by
  intro f
  induction f with
  | zero => intro seen us x _ h; exact h
  | succ f ih =>
    intro seen us x gx h
    unfold rtGo
    split
    · exact h
    · split
      · exact h
      · cases e : rtNext P rs x with
        | none => exact h
        | some r =>
          have ng := rtNext_g hr gx (k := r.1) (y := r.2) e
          refine ih _ _ _ ng.2 fun u hu => ?_
          rcases List.mem_append.mp hu with w | w
          · exact h u w
          · cases w with
            | head => have := ng.1; omega
            | tail _ w => cases w
def rdN (P : Nat → List Line) (X : Nat → XA) (rs : List (Pl × Pl)) (r : Nat) (y : Pl × Pl) (b : Int32) : Int32 := if b = nI 0 then nI y.1.1 else if b = nI 1 then bI (decide (y.1.2 ≠ none)) else if b = nI 2 then nI y.2.1 else if b = nI 3 then bI (decide (y.2.2 ≠ none)) else if b = nI 4 then nI (sumP P (usK P X rs r) 12) else (-2)
def rdX (o : Option (Pl × Pl)) (f : Pl × Pl → Int32) : Int32 := match o with
  | none => 0
  | some y => f y
def redirV (P : Nat → List Line) (X : Nat → XA) (rs : List (Pl × Pl)) (a b : Int32) : Int32 := if rngI a rs.length then rdX rs[a.toNatClampNeg]? (fun y => rdN P X rs a.toNatClampNeg y b) else (-1)
theorem rdN_d {P : Nat → List Line} {X : Nat → XA} {rs : List (Pl × Pl)} {r : Nat} {y : Pl × Pl} {c : Int32} (h : c.toInt < 0 ∨ 4 < c.toInt) : rdN P X rs r y c = (-2) := by
  unfold rdN
  rw [if_neg (fun e => by rw [e, nI_toInt (by omega)] at h; omega), if_neg (fun e => by rw [e, nI_toInt (by omega)] at h; omega), if_neg (fun e => by rw [e, nI_toInt (by omega)] at h; omega), if_neg (fun e => by rw [e, nI_toInt (by omega)] at h; omega), if_neg (fun e => by rw [e, nI_toInt (by omega)] at h; omega)]
section
variable {σ : Hp} {P : Nat → List Line} {X : Nat → XA} {rs : List (Pl × Pl)} {es : List En}
set_option maxRecDepth 6000 in
theorem e_usesOf (d : Nat) (cs : CS σ P X rs es) (hP : gP P) {r : Nat} (hr : r < 12) : PI (d + 3) 102 [vr 1 0, vi (nI r)] σ (nI (sumP P (usK P X rs r) 12)) (fun h => Fr QF σ h) := by
  refine PI_of mt_102 (Nat.le_of_ble_eq_true rfl) fun Q hq => ?_
  have inner : ∀ (p : Nat), p < 12 → (∀ h, Fr QF σ h → Sat true (d + 3) 102 σ.1 Q 4 [some (vr 1 0), some (vi (nI r)), some (vi (nI (sumP P (usK P X rs r) (p + 1)))), some (vi (nI (p + 1))), none, none] [] h) → ∀ (t c : List Lk) (h : Hp), lkPg p 0 (P p) = c ++ t → Fr QF σ h → Sat true (d + 3) 102 σ.1 Q 24 [some (vr 1 0), some (vi (nI r)), some (vi (nI (sumP P (usK P X rs r) p + sumL (usK P X rs r) c))), some (vi (nI p)), some (vr 21 p), some (vi (nI c.length))] [] h := by
    intro p hp kq t
    induction t with
    | nil =>
      intro c h e hf
      rw [List.append_nil] at e
      have cs1 := CS_q hf cs
      have h8 : hI h 21 p 8 = nI c.length := by rw [(cs1.2.1 p hp).2.1, lk_len, e]
      have k1 := kq h hf
      unfold sumP at k1
      rw [e] at k1
      refine wp_ok (cut := [4, 24]) ma_102 rfl 18 _ _ _ _ ?_
      show (p < 12 ∧ (((hI h 21 p 8) ≤ (nI c.length) → Sat true (d + 3) 102 σ.1 Q 4 [some (vr 1 0), some (vi (nI r)), some (vi (nI (sumP P (usK P X rs r) p + sumL (usK P X rs r) c))), some (vi ((nI p) + nI 1)), some (vr 21 p), some (vi (nI c.length))] [] h) ∧ (¬ (hI h 21 p 8) ≤ (nI c.length) → CalV true (d + 2) 43 [vr 225 0, vr 21 p, vi (nI c.length)] h σ.1 (fun s1 => CalI true (d + 2) 44 [vr 225 0, vi (nI r)] s1 σ.1 (fun x3 s2 => Sat true (d + 3) 102 σ.1 Q 24 [some (vr 1 0), some (vi (nI r)), some (vi ((nI (sumP P (usK P X rs r) p + sumL (usK P X rs r) c)) + x3)), some (vi (nI p)), some (vr 21 p), some (vi ((nI c.length) + nI 1))] [] s2)))))
      rw [h8, addN]
      exact ⟨hp, fun _ => Sat_no 4 (Sat_no 5 k1), fun g => absurd (Int32.le_refl _) g⟩
    | cons k t ih =>
      intro c h e hf
      have cs1 := CS_q hf cs
      have hk : (lkPg p 0 (P p))[c.length]? = some k := by rw [e, List.getElem?_append_right (Nat.le_refl _), Nat.sub_self]; rfl
      have hl : (lkPg p 0 (P p)).length = c.length + (t.length + 1) := by rw [e, List.length_append, List.length_cons]
      have h8 : hI h 21 p 8 = nI (c.length + (t.length + 1)) := by rw [(cs1.2.1 p hp).2.1, lk_len, hl]
      have b42 := (bds hP hp).2
      refine wp_ok (cut := [4, 24]) ma_102 rfl 18 _ _ _ _ ?_
      show (p < 12 ∧ (((hI h 21 p 8) ≤ (nI c.length) → Sat true (d + 3) 102 σ.1 Q 4 [some (vr 1 0), some (vi (nI r)), some (vi (nI (sumP P (usK P X rs r) p + sumL (usK P X rs r) c))), some (vi ((nI p) + nI 1)), some (vr 21 p), some (vi (nI c.length))] [] h) ∧ (¬ (hI h 21 p 8) ≤ (nI c.length) → CalV true (d + 2) 43 [vr 225 0, vr 21 p, vi (nI c.length)] h σ.1 (fun s1 => CalI true (d + 2) 44 [vr 225 0, vi (nI r)] s1 σ.1 (fun x3 s2 => Sat true (d + 3) 102 σ.1 Q 24 [some (vr 1 0), some (vi (nI r)), some (vi ((nI (sumP P (usK P X rs r) p + sumL (usK P X rs r) c)) + x3)), some (vi (nI p)), some (vr 21 p), some (vi ((nI c.length) + nI 1))] [] s2)))))
      rw [h8, addN, addN]
      refine ⟨hp, br_le (by omega) (by omega) (fun g => by omega) (fun _ => cp_v (e_way d cs1 hP hp hk) hf.1 (fun h1 q1 e1 => ?_))⟩
      have nx := ih (c ++ [k]) h1 (by rw [e, List.append_assoc]; rfl) (hf.tr (RF_QF q1.2))
      rw [sumL_sn, List.length_append, ← Nat.add_assoc] at nx
      obtain ⟨r1, r2, r3, r4, r5, r6, r7, r8⟩ := q1.1
      refine cal_i (e_routeUses (d + 2) hr r5 r6 r7 (rtGo_u cs.2.2.2.1.2.1 (fun k y hy => ⟨(cs.2.2.2.1.2.2 k y hy).2.2.2.2.1, (cs.2.2.2.1.2.2 k y hy).2.2.2.2.2⟩) 169 [] [] _ (lkPg_g hp (P p) 0 (hP p hp).1 k (List.mem_of_getElem? hk)) (fun u hu => by cases hu))) e1 ?_
      rw [addN]
      exact nx
  have outer : ∀ (m p : Nat) (h : Hp), p + m = 12 → Fr QF σ h → Sat true (d + 3) 102 σ.1 Q 4 [some (vr 1 0), some (vi (nI r)), some (vi (nI (sumP P (usK P X rs r) p))), some (vi (nI p)), none, none] [] h := by
    intro m
    induction m with
    | zero =>
      intro p h hp hf
      have hp : p = 12 := hp
      subst hp
      refine wp_ok (cut := [4, 24]) ma_102 rfl 11 _ _ _ _ ?_
      show (((nI 12) ≤ (nI 12) → (Q (some (vi (nI (sumP P (usK P X rs r) 12)))) h ∧ h.1 = σ.1)) ∧ (¬ (nI 12) ≤ (nI 12) → (vp_in (nI 12) 12 ∧ Sat true (d + 3) 102 σ.1 Q 24 [some (vr 1 0), some (vi (nI r)), some (vi (nI (sumP P (usK P X rs r) 12))), some (vi (nI 12)), some (vr 21 12), some (vi (nI 0))] [] h)))
      exact ⟨fun _ => ⟨hq h hf, hf.1⟩, fun g => absurd (Int32.le_refl _) g⟩
    | succ m ih =>
      intro p h hp hf
      refine wp_ok (cut := [4, 24]) ma_102 rfl 11 _ _ _ _ ?_
      show (((nI 12) ≤ (nI p) → (Q (some (vi (nI (sumP P (usK P X rs r) p)))) h ∧ h.1 = σ.1)) ∧ (¬ (nI 12) ≤ (nI p) → (vp_in (nI p) 12 ∧ Sat true (d + 3) 102 σ.1 Q 24 [some (vr 1 0), some (vi (nI r)), some (vi (nI (sumP P (usK P X rs r) p))), some (vi (nI p)), some (vr 21 ((nI p).toNatClampNeg)), some (vi (nI 0))] [] h)))
      rw [ix (by omega)]
      exact br_le (by omega) (by omega) (fun g => by omega) (fun _ => ⟨inb (by omega) (by omega), inner p (by omega) (fun h2 f2 => ih (p + 1) h2 (by omega) f2) _ [] h rfl hf⟩)
  refine wp_ok (cut := [4]) ma_102 rfl 4 _ _ _ _ ?_
  show Sat true (d + 3) 102 σ.1 Q 4 [some (vr 1 0), some (vi (nI r)), some (vi (nI 0)), some (vi (nI 0)), none, none] [] σ
  exact outer 12 0 σ (by omega) (Fr.rfl' _ _)
theorem e_isRedirect (d : Nat) (cs : CS σ P X rs es) (a : Int32) : EI d 96 [vr 1 0, vi a] σ (bI (rngI a rs.length)) σ := by
  refine EI_of mt_96 (Nat.le_of_ble_eq_true rfl) fun Q hq => ?_
  unfold rngI at hq
  refine wp_ok (cut := []) ma_96 rfl 11 _ _ _ _ ?_
  show ((a < 0 → (((nI 0) = 0 ∨ (nI 0) = 1) ∧ (Q (some (vi (nI 0))) σ ∧ σ.1 = σ.1))) ∧ (¬ a < 0 → (((hI σ 8 0 2) ≤ a → (((nI 0) = 0 ∨ (nI 0) = 1) ∧ (Q (some (vi (nI 0))) σ ∧ σ.1 = σ.1))) ∧ (¬ (hI σ 8 0 2) ≤ a → (((nI 1) = 0 ∨ (nI 1) = 1) ∧ (Q (some (vi (nI 1))) σ ∧ σ.1 = σ.1))))))
  rw [cs.2.2.2.1.1]
  refine ⟨fun g => ?_, fun g => ⟨fun g2 => ?_, fun g2 => ?_⟩⟩
  · rw [decide_eq_false (fun w => Int32.not_lt.mpr w.1 g)] at hq
    exact ⟨Or.inl rfl, hq, rfl⟩
  · rw [decide_eq_false (fun w => Int32.not_lt.mpr g2 w.2)] at hq
    exact ⟨Or.inl rfl, hq, rfl⟩
  · rw [decide_eq_true ⟨not_ltI g, Int32.not_le.mp g2⟩] at hq
    exact ⟨Or.inr rfl, hq, rfl⟩
theorem m_isTurn (d : Nat) (hr : TrsM σ rs) (a : Int32) : EI (d + 1) 169 [vr 233 0, vi a] σ (bI (rngI a rs.length)) σ := by
  refine EI_of mt_169 (Nat.le_of_ble_eq_true rfl) fun Q hq => ?_
  have h12 := hr.2.1
  refine wp_ok (cut := []) ma_169 rfl 8 _ _ _ _ ?_
  show CalI true d 166 [vr 233 0] σ σ.1 (fun x2 s1 => CalI true d 108 [vi a, vi (nI 0), vi (x2 - (nI 1))] s1 σ.1 (fun x4 s3 => ((x4 = 0 ∨ x4 = 1) ∧ (Q (some (vi x4)) s3 ∧ s3.1 = σ.1))))
  refine cal_i (m_turns d hr.1) rfl (cal_i (m_inN d σ a (by omega)) rfl ⟨?_, hq, rfl⟩)
  exact bI_01 _
set_option maxRecDepth 6000 in
theorem e_redirection (d : Nat) (cs : CS σ P X rs es) (hP : gP P) (a b : Int32) : PI (d + 4) 82 [vr 1 0, vi a, vi b] σ (redirV P X rs a b) (fun h => Fr QF σ h) := by
  refine PI_of mt_82 (Nat.le_of_ble_eq_true rfl) fun Q hq => ?_
  unfold redirV at hq
  have h12 := cs.2.2.2.1.2.1
  refine wp_ok (cut := []) ma_82 rfl 18 _ _ _ _ ?_
  show CalI true (d + 3) 96 [vr 1 0, vi a] σ σ.1 (fun x2 s1 => ((¬ x2 = 0 → (((b = nI 0 → (vp_in a 12 ∧ (Q (some (vi (hI s1 11 0 a.toNatClampNeg))) s1 ∧ s1.1 = σ.1))) ∧ ((b = nI 1 → (vp_in a 12 ∧ ((¬ (lg_cmp (hL s1 12 0 a.toNatClampNeg) (lN 0)) = 0 → (Q (some (vi (nI 1))) s1 ∧ s1.1 = σ.1)) ∧ ((lg_cmp (hL s1 12 0 a.toNatClampNeg) (lN 0)) = 0 → (Q (some (vi (nI 0))) s1 ∧ s1.1 = σ.1))))) ∧ ((b = nI 2 → (vp_in a 12 ∧ (Q (some (vi (hI s1 13 0 a.toNatClampNeg))) s1 ∧ s1.1 = σ.1))) ∧ ((b = nI 3 → (vp_in a 12 ∧ ((¬ (lg_cmp (hL s1 14 0 a.toNatClampNeg) (lN 0)) = 0 → (Q (some (vi (nI 1))) s1 ∧ s1.1 = σ.1)) ∧ ((lg_cmp (hL s1 14 0 a.toNatClampNeg) (lN 0)) = 0 → (Q (some (vi (nI 0))) s1 ∧ s1.1 = σ.1))))) ∧ ((b = nI 4 → CalI true (d + 3) 102 [vr 1 0, vi a] s1 σ.1 (fun x4 s3 => (Q (some (vi x4)) s3 ∧ s3.1 = σ.1))) ∧ True))))) ∧ ((b.toInt < 0 ∨ 4 < b.toInt) → (Q (some (vi (-2))) s1 ∧ s1.1 = σ.1)))) ∧ (x2 = 0 → (Q (some (vi (-1))) s1 ∧ s1.1 = σ.1))))
  refine cal_i (e_isRedirect (d + 3) cs a) rfl (brN (fun h => ?_) (fun h => ?_))
  · rw [if_pos h] at hq
    obtain ⟨r, hr, rfl⟩ := rngI_t (by omega) h
    have hy : rs[r]? = some rs[r] := List.getElem?_eq_getElem hr
    rw [ix (by omega), hy] at hq
    have hq : ∀ h, Fr QF σ h → Q (some (vi (rdN P X rs r rs[r] b))) h := hq
    have hq0 := hq σ (Fr.rfl' _ _)
    obtain ⟨y1, y2, y3, y4, y5, y6⟩ := cs.2.2.2.1.2.2 r _ hy
    rw [ix (by omega), y1, y2, y3, y4, lg_cmp_eq, lg_cmp_eq, lO_0 y5.2, lO_0 y6.2]
    have i1 : vp_in (nI r) 12 := inb (by omega) (by omega)
    refine ⟨⟨fun e => ⟨i1, ?_, rfl⟩, fun e => ⟨i1, ?_⟩, fun e => ⟨i1, ?_, rfl⟩, fun e => ⟨i1, ?_⟩, fun e => ?_, True.intro⟩, fun e => ⟨?_, rfl⟩⟩
    · rw [e] at hq0; exact hq0
    · rw [e] at hq0
      have hq0 : Q (some (vi (bI (decide (rs[r].1.2 ≠ none))))) σ := hq0
      refine ⟨fun w => ?_, fun w => ?_⟩
      · rw [decide_eq_true w] at hq0
        exact ⟨hq0, rfl⟩
      · rw [decide_eq_false (fun z => z w)] at hq0
        exact ⟨hq0, rfl⟩
    · rw [e] at hq0; exact hq0
    · rw [e] at hq0
      have hq0 : Q (some (vi (bI (decide (rs[r].2.2 ≠ none))))) σ := hq0
      refine ⟨fun w => ?_, fun w => ?_⟩
      · rw [decide_eq_true w] at hq0
        exact ⟨hq0, rfl⟩
      · rw [decide_eq_false (fun z => z w)] at hq0
        exact ⟨hq0, rfl⟩
    · rw [e] at hq
      exact cp_i (e_usesOf d cs hP (by omega)) rfl (fun h1 q1 e1 => ⟨hq h1 q1, e1⟩)
    · rw [rdN_d e] at hq0
      exact hq0
  · rw [if_neg (fun w => by rw [h] at w; cases w)] at hq
    exact ⟨hq σ (Fr.rfl' _ _), rfl⟩
theorem m_followedBy (d : Nat) (ms : MS σ P X rs es) {r : Nat} (hr : r < 12) : PI (d + 10) 180 [vr 233 0, vi (nI r)] σ (nI (sumP P (usK P X rs r) 12)) (fun h => MS h P X rs es ∧ FrM SQ σ h) := by
  refine PI_of mt_180 (Nat.le_of_ble_eq_true rfl) fun Q hq => ?_
  have loop : ∀ (m k : Nat) (h : Hp), k + m = 12 → FrM (fun f _ => f = 262) σ h → (∀ q, q < k → hI h 262 0 q = nI 0) → Sat true (d + 10) 180 σ.1 Q 2 [some (vr 233 0), some (vi (nI r)), some (vi (nI k))] [] h := by
    intro m
    induction m with
    | zero =>
      intro k h hk f z
      have l1 : IsLd h P := by
        obtain ⟨b, b1, b2⟩ := ms.2.2.2.1
        refine ⟨b, by rw [f.2.2.2 233 0 5 (fun w => by have := w.2; omega)]; exact b1, fun w p hp => LaidP_cong ms.1 hp (fun g k w2 => f.2.2.2 g 0 k fun w3 => by have := w3.2; unfold Reg at w2; omega) (b2 w p hp)⟩
      have ms1 := MS_fr f (fun k w => by have w : 235 = 262 := w; omega) l1 ms
      refine wp_ok (cut := [2]) ma_180 rfl 12 _ _ _ _ ?_
      show (((nI 12) ≤ (nI k) → CalI true (d + 9) 181 [vr 233 0, vi (-6)] h σ.1 (fun x2 s1 => (vp_in (nI r) 12 ∧ (Q (some (vi (hI s1 262 0 ((nI r).toNatClampNeg)))) s1 ∧ s1.1 = σ.1)))) ∧ (¬ (nI 12) ≤ (nI k) → (vp_in (nI k) 12 ∧ Sat true (d + 10) 180 σ.1 Q 2 [some (vr 233 0), some (vi (nI r)), some (vi ((nI k) + nI 1))] [] (setI h 262 0 ((nI k).toNatClampNeg) (nI 0)))))
      rw [ix (by omega)]
      refine br_le (by omega) (by omega) (fun _ => cp_i (m_tallyOf d ms1 (-6)) f.1 (fun h1 q1 e1 => ⟨inb hr (by omega), ?_, e1⟩)) (fun g => by omega)
      rw [q1.2.2.2 r hr, z r (by omega), addN, Nat.zero_add]
      exact hq h1 ⟨q1.1, (f.mo fun g k w => Or.inr (Or.inr (Or.inl w))).tr q1.2.2.1⟩
    | succ m ih =>
      intro k h hk f z
      refine wp_ok (cut := [2]) ma_180 rfl 12 _ _ _ _ ?_
      show (((nI 12) ≤ (nI k) → CalI true (d + 9) 181 [vr 233 0, vi (-6)] h σ.1 (fun x2 s1 => (vp_in (nI r) 12 ∧ (Q (some (vi (hI s1 262 0 ((nI r).toNatClampNeg)))) s1 ∧ s1.1 = σ.1)))) ∧ (¬ (nI 12) ≤ (nI k) → (vp_in (nI k) 12 ∧ Sat true (d + 10) 180 σ.1 Q 2 [some (vr 233 0), some (vi (nI r)), some (vi ((nI k) + nI 1))] [] (setI h 262 0 ((nI k).toNatClampNeg) (nI 0)))))
      rw [ix (n := k) (by omega), addN]
      refine br_le (by omega) (by omega) (fun g => by omega) (fun _ => ⟨inb (by omega) (by omega), ih (k + 1) _ (by omega) (f.sI (f := 262) rfl _) (fun q hq => ?_)⟩)
      by_cases e : q = k
      · rw [e, hI_s]
      · rw [hI_k _ _ _ _ e]
        exact z q (by omega)
  refine wp_ok (cut := [2]) ma_180 rfl 2 _ _ _ _ ?_
  show Sat true (d + 10) 180 σ.1 Q 2 [some (vr 233 0), some (vi (nI r)), some (vi (nI 0))] [] σ
  exact loop 12 0 σ (by omega) (FrM.rfl' _ _) (fun q hq => absurd hq (Nat.not_lt_zero _))
set_option maxRecDepth 6000 in
theorem m_redirection (d : Nat) (ms : MS σ P X rs es) (a b : Int32) : PI (d + 11) 171 [vr 233 0, vi a, vi b] σ (redirV P X rs a b) (fun h => MS h P X rs es ∧ FrM SQ σ h) := by
  refine PI_of mt_171 (Nat.le_of_ble_eq_true rfl) fun Q hq => ?_
  unfold redirV at hq
  have hr := ms.2.2.2.2.1
  have h12 := hr.2.1
  have ref : MS σ P X rs es ∧ FrM SQ σ σ := ⟨ms, FrM.rfl' _ _⟩
  refine wp_ok (cut := []) ma_171 rfl 15 _ _ _ _ ?_
  show CalI true (d + 10) 169 [vr 233 0, vi a] σ σ.1 (fun x2 s1 => ((¬ x2 = 0 → (((b = nI 0 → CalI true (d + 10) 165 [vr 233 0, vi a] s1 σ.1 (fun x12 s11 => (vp_in x12 2830 ∧ (Q (some (vi (hI s11 235 0 x12.toNatClampNeg))) s11 ∧ s11.1 = σ.1)))) ∧ ((b = nI 1 → CalI true (d + 10) 165 [vr 233 0, vi a] s1 σ.1 (fun x10 s9 => (vp_in (x10 + (nI 1)) 2830 ∧ (Q (some (vi (hI s9 235 0 ((x10 + (nI 1)).toNatClampNeg)))) s9 ∧ s9.1 = σ.1)))) ∧ ((b = nI 2 → CalI true (d + 10) 165 [vr 233 0, vi a] s1 σ.1 (fun x8 s7 => (vp_in (x8 + (nI 14)) 2830 ∧ (Q (some (vi (hI s7 235 0 ((x8 + (nI 14)).toNatClampNeg)))) s7 ∧ s7.1 = σ.1)))) ∧ ((b = nI 3 → CalI true (d + 10) 165 [vr 233 0, vi a] s1 σ.1 (fun x6 s5 => (vp_in (x6 + (nI 15)) 2830 ∧ (Q (some (vi (hI s5 235 0 ((x6 + (nI 15)).toNatClampNeg)))) s5 ∧ s5.1 = σ.1)))) ∧ ((b = nI 4 → CalI true (d + 10) 180 [vr 233 0, vi a] s1 σ.1 (fun x4 s3 => (Q (some (vi x4)) s3 ∧ s3.1 = σ.1))) ∧ True))))) ∧ ((b.toInt < 0 ∨ 4 < b.toInt) → (Q (some (vi (-2))) s1 ∧ s1.1 = σ.1)))) ∧ (x2 = 0 → (Q (some (vi (-1))) s1 ∧ s1.1 = σ.1))))
  refine cal_i (m_isTurn (d + 9) hr a) rfl (brN (fun h => ?_) (fun h => ?_))
  · rw [if_pos h] at hq
    obtain ⟨r, hr1, rfl⟩ := rngI_t (by omega) h
    have hy : rs[r]? = some rs[r] := List.getElem?_eq_getElem hr1
    rw [ix (by omega), hy] at hq
    have hq : ∀ h, (MS h P X rs es ∧ FrM SQ σ h) → Q (some (vi (rdN P X rs r rs[r] b))) h := hq
    have hq0 := hq σ ref
    obtain ⟨t1, t2, t3, t4⟩ := hr.2.2 r _ hy
    have ta := m_turnAt (d + 10) σ r
    have a1 : hI σ 235 0 (1932 + 28 * r + 1) = bI (decide (rs[r].1.2 ≠ none)) := by
      rw [t1.2.1, decide_eq_decide.mpr (not_congr (txO_nil t3.2))]
    have a2 : hI σ 235 0 (1932 + 28 * r + 15) = bI (decide (rs[r].2.2 ≠ none)) := by
      have e : hI σ 235 0 (1932 + 28 * r + 15) = bI (decide (txO rs[r].2.2 ≠ [])) := t2.2.1
      rw [e, decide_eq_decide.mpr (not_congr (txO_nil t4.2))]
    refine ⟨⟨fun e => cal_i ta rfl ?_, fun e => cal_i ta rfl ?_, fun e => cal_i ta rfl ?_, fun e => cal_i ta rfl ?_, fun e => ?_, True.intro⟩, fun e => ⟨?_, rfl⟩⟩
    · rw [ix (by omega), t1.1]
      rw [e] at hq0
      exact ⟨inb (by omega) (by omega), hq0, rfl⟩
    · rw [addN, ix (by omega), a1]
      rw [e] at hq0
      exact ⟨inb (by omega) (by omega), hq0, rfl⟩
    · rw [addN, ix (by omega), t2.1]
      rw [e] at hq0
      exact ⟨inb (by omega) (by omega), hq0, rfl⟩
    · rw [addN, ix (by omega), a2]
      rw [e] at hq0
      exact ⟨inb (by omega) (by omega), hq0, rfl⟩
    · rw [e] at hq
      exact cp_i (m_followedBy d ms (by omega)) rfl (fun h1 q1 e1 => ⟨hq h1 q1, e1⟩)
    · rw [rdN_d e] at hq0
      exact hq0
  · rw [if_neg (fun w => by rw [h] at w; cases w)] at hq
    exact ⟨hq σ ref, rfl⟩
end
