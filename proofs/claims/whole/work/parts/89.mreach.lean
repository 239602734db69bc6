/-! reach: the model, and both calls -/
def reachV (P : Nat → List Line) (X : Nat → XA) (rs : List (Pl × Pl)) (a b : Int32) : Int32 := if rngI a 12 then (if b = nI 0 then reM P X rs a.toNatClampNeg else if b = nI 1 then srcB P 12 &&& (reM P X rs a.toNatClampNeg ^^^ (-1)) else (-2)) else (-1)
section
variable {σ : Hp} {P : Nat → List Line} {X : Nat → XA} {rs : List (Pl × Pl)} {es : List En}
set_option maxRecDepth 6000 in
theorem e_reach (d : Nat) (cs : CS σ P X rs es) (hP : gP P) (a b : Int32) : PI (d + 5) 85 [vr 1 0, vi a, vi b] σ (reachV P X rs a b) (fun h => Fr QF σ h) := by
  refine PI_of mt_85 (Nat.le_of_ble_eq_true rfl) fun Q hq => ?_
  unfold reachV at hq
  have n10 : ¬ (nI 1 : Int32) = nI 0 := by decide
  refine wp_ok (cut := []) ma_85 rfl 23 _ _ _ _ ?_
  show CalI true (d + 4) 93 [vi a] σ σ.1 (fun x2 s1 => ((¬ x2 = 0 → ((b = 0 → CalI true (d + 4) 103 [vr 1 0, vi a] s1 σ.1 (fun x4 s3 => ((¬ b = 0 → CalI true (d + 4) 61 [vr 8 0] s3 σ.1 (fun x6 s5 => (Q (some (vi (x6 &&& (x4 ^^^ (-1))))) s5 ∧ s5.1 = σ.1))) ∧ (b = 0 → (Q (some (vi x4)) s3 ∧ s3.1 = σ.1))))) ∧ (¬ b = 0 → ((b = (nI 1) → CalI true (d + 4) 103 [vr 1 0, vi a] s1 σ.1 (fun x8 s7 => ((¬ b = 0 → CalI true (d + 4) 61 [vr 8 0] s7 σ.1 (fun x10 s9 => (Q (some (vi (x10 &&& (x8 ^^^ (-1))))) s9 ∧ s9.1 = σ.1))) ∧ (b = 0 → (Q (some (vi x8)) s7 ∧ s7.1 = σ.1))))) ∧ (¬ b = (nI 1) → (Q (some (vi (-2))) s1 ∧ s1.1 = σ.1)))))) ∧ (x2 = 0 → (Q (some (vi (-1))) s1 ∧ s1.1 = σ.1))))
  refine cal_i (e_isPage (d + 4) σ a) rfl (brN (fun h => ?_) (fun h => ?_))
  · rw [if_pos h] at hq
    obtain ⟨p, hp, rfl⟩ := rngI_t (by omega) h
    rw [ix (by omega)] at hq
    refine ⟨fun g => cp_i (e_reachedFrom d cs hP hp) rfl (fun h1 q1 e1 => ⟨fun w => absurd g w, fun _ => ?_⟩), fun g => ⟨fun g2 => cp_i (e_reachedFrom d cs hP hp) rfl (fun h1 q1 e1 => ⟨fun _ => cal_i (e_sources (d + 3) (CS_q q1 cs).1) e1 ⟨?_, e1⟩, fun w => absurd w g⟩), fun g2 => ?_⟩⟩
    · have g : b = nI 0 := g
      rw [if_pos g] at hq
      exact ⟨hq h1 q1, e1⟩
    · rw [if_neg (fun w => n10 (g2.symm.trans w)), if_pos g2] at hq
      exact hq h1 q1
    · rw [if_neg (show ¬ b = nI 0 from g), if_neg g2] at hq
      exact ⟨hq σ (Fr.rfl' _ _), rfl⟩
  · rw [if_neg (fun w => by rw [h] at w; cases w)] at hq
    exact ⟨hq σ (Fr.rfl' _ _), rfl⟩
theorem m_endsOf (d : Nat) (ms : MS σ P X rs es) (ld : LdX σ P X) {p : Nat} (hp : p < 12) : PI (d + 9) 184 [vr 233 0, vi (nI p)] σ (enL P X rs (lkPg p 0 (P p)) (nI 0)) (fun h => MS h P X rs es ∧ LdX h P X ∧ FrM SQ σ h) := by
  refine PI_of mt_184 (Nat.le_of_ble_eq_true rfl) fun Q hq => ?_
  have z0 : ∀ m : Int32, m ||| nI 0 = m := fun m => Int32.or_zero
  have loop : ∀ (t c : List Lk) (h : Hp), lkPg p 0 (P p) = c ++ t → (MS h P X rs es ∧ LdX h P X ∧ FrM SQ σ h) → Sat true (d + 9) 184 σ.1 Q 4 [some (vr 233 0), some (vi (nI p)), some (vi (enL P X rs c (nI 0))), some (vi (nI c.length))] [] h := by
    intro t
    induction t with
    | nil =>
      intro c h e hf
      rw [List.append_nil] at e
      have h8 : hI h 253 0 p = nI c.length := by rw [(hf.2.1.2 p hp).1.2.2.2.2.2.1, e]
      have hq := hq h hf
      rw [e] at hq
      refine wp_ok (cut := [4]) ma_184 rfl 29 _ _ _ _ ?_
      show (vp_in (nI p) 12 ∧ (((hI h 253 0 ((nI p).toNatClampNeg)) ≤ (nI c.length) → (Q (some (vi (enL P X rs c (nI 0)))) h ∧ h.1 = σ.1)) ∧ (¬ (hI h 253 0 ((nI p).toNatClampNeg)) ≤ (nI c.length) → CalV true (d + 8) 177 [vr 233 0, vi (nI p), vi (nI c.length)] h σ.1 (fun s1 => (((nI 1) < (hI s1 233 0 36) → Sat true (d + 9) 184 σ.1 Q 4 [some (vr 233 0), some (vi (nI p)), some (vi ((enL P X rs c (nI 0)) ||| (nI 0))), some (vi ((nI c.length) + nI 1))] [] s1) ∧ (¬ (nI 1) < (hI s1 233 0 36) → (vp_in ((nI 14) * (hI s1 233 0 35)) 5600 ∧ Sat true (d + 9) 184 σ.1 Q 4 [some (vr 233 0), some (vi (nI p)), some (vi ((enL P X rs c (nI 0)) ||| ((nI 1) <<< ((hI s1 261 0 (((nI 14) * (hI s1 233 0 35)).toNatClampNeg)) &&& 31)))), some (vi ((nI c.length) + nI 1))] [] s1)))))))
      rw [ix (by omega), h8]
      exact ⟨inb hp (by omega), fun _ => ⟨hq, hf.2.2.1⟩, fun g => absurd (Int32.le_refl _) g⟩
    | cons k t ih =>
      intro c h e hf
      have hk : (lkPg p 0 (P p))[c.length]? = some k := by rw [e, List.getElem?_append_right (Nat.le_refl _), Nat.sub_self]; rfl
      have hl : (lkPg p 0 (P p)).length = c.length + (t.length + 1) := by rw [e, List.length_append, List.length_cons]
      have h8 : hI h 253 0 p = nI (c.length + (t.length + 1)) := by rw [(hf.2.1.2 p hp).1.2.2.2.2.2.1, hl]
      have b42 := (bds ms.1 hp).2
      have k4 : knd P X rs k ≤ 4 := rtRun_k P X rs (k.1, k.2.1)
      refine wp_ok (cut := [4]) ma_184 rfl 29 _ _ _ _ ?_
      show (vp_in (nI p) 12 ∧ (((hI h 253 0 ((nI p).toNatClampNeg)) ≤ (nI c.length) → (Q (some (vi (enL P X rs c (nI 0)))) h ∧ h.1 = σ.1)) ∧ (¬ (hI h 253 0 ((nI p).toNatClampNeg)) ≤ (nI c.length) → CalV true (d + 8) 177 [vr 233 0, vi (nI p), vi (nI c.length)] h σ.1 (fun s1 => (((nI 1) < (hI s1 233 0 36) → Sat true (d + 9) 184 σ.1 Q 4 [some (vr 233 0), some (vi (nI p)), some (vi ((enL P X rs c (nI 0)) ||| (nI 0))), some (vi ((nI c.length) + nI 1))] [] s1) ∧ (¬ (nI 1) < (hI s1 233 0 36) → (vp_in ((nI 14) * (hI s1 233 0 35)) 5600 ∧ Sat true (d + 9) 184 σ.1 Q 4 [some (vr 233 0), some (vi (nI p)), some (vi ((enL P X rs c (nI 0)) ||| ((nI 1) <<< ((hI s1 261 0 (((nI 14) * (hI s1 233 0 35)).toNatClampNeg)) &&& 31)))), some (vi ((nI c.length) + nI 1))] [] s1)))))))
      rw [ix (by omega), h8, addN]
      refine ⟨inb hp (by omega), br_le (by omega) (by omega) (fun g => by omega) (fun _ => cp_v (m_resolve d hf.1 hp hk) hf.2.2.1 (fun h1 q1 e1 => ?_))⟩
      have nx := ih (c ++ [k]) h1 (by rw [e, List.append_assoc]; rfl) ⟨q1.1, q1.2.1, hf.2.2.tr q1.2.2.2⟩
      rw [enL_sn, List.length_append] at nx
      obtain ⟨r1, r2, r3, r4, r5, r6, r7, r8⟩ := q1.2.2.1
      have r1 : hI h1 233 0 36 = nI (knd P X rs k) := r1
      rw [r1, r2, mulN, ix (by omega), r4.1.1]
      refine br_lt (by omega) (by omega) (fun g => ?_) (fun g => ⟨inb (by omega) (by omega), ?_⟩)
      · rw [if_neg (by omega)] at nx
        rw [z0]
        exact nx
      · rw [if_pos g] at nx
        exact nx
  refine wp_ok (cut := [4]) ma_184 rfl 4 _ _ _ _ ?_
  show Sat true (d + 9) 184 σ.1 Q 4 [some (vr 233 0), some (vi (nI p)), some (vi (nI 0)), some (vi (nI 0))] [] σ
  exact loop _ [] σ rfl ⟨ms, ld, FrM.rfl' _ _⟩
/-- on the way of the model's reach -/
def RxI (P : Nat → List Line) (X : Nat → XA) (rs : List (Pl × Pl)) (p : Nat) (m x : Int32) (q : Nat) : Prop := bt m p = true ∧ (∀ s, bt m s = true → s < 12 ∧ bt (reM P X rs p) s = true) ∧ (∀ r, bt x r = true → bt m r = true) ∧ (m = x → ∀ r, r < q → bt m r = true → ∀ s, bt (nbM P X rs r) s = true → bt m s = true)
theorem MS_r (ms : MS σ P X rs es) : ∀ (k : Nat) (y : Pl × Pl), rs[k]? = some y → gPl y.1 ∧ gPl y.2 := fun k y hy => ⟨(ms.2.2.2.2.1.2.2 k y hy).2.2.1, (ms.2.2.2.2.1.2.2 k y hy).2.2.2⟩
set_option maxRecDepth 6000 in
theorem s_mrePass (d : Nat) (ms : MS σ P X rs es) {p : Nat} {b : Int32} (hp : p < 12) {x : Int32} {Q : Option AV → Hp → Prop} (kq : ∀ m h, (MS h P X rs es ∧ LdX h P X ∧ FrM SQ σ h) → RxI P X rs p m x 12 → Sat true (d + 10) 183 σ.1 Q 32 [some (vr 233 0), some (vi (nI p)), some (vi b), some (vi m), some (vi x), none] [] h) : ∀ (n q : Nat) (m : Int32) (h : Hp), q + n = 12 → (MS h P X rs es ∧ LdX h P X ∧ FrM SQ σ h) → RxI P X rs p m x q → Sat true (d + 10) 183 σ.1 Q 44 [some (vr 233 0), some (vi (nI p)), some (vi b), some (vi m), some (vi x), some (vi (nI q))] [] h := by
  intro n
  induction n with
  | zero =>
    intro q m h hq hf hi
    have hq : q = 12 := hq
    subst hq
    refine wp_ok (cut := [32, 44]) ma_183 rfl 27 _ _ _ _ ?_
    show (((nI 12) ≤ (nI 12) → Sat true (d + 10) 183 σ.1 Q 32 [some (vr 233 0), some (vi (nI p)), some (vi b), some (vi m), some (vi x), some (vi (nI 12))] [] h) ∧ (¬ (nI 12) ≤ (nI 12) → ((¬ ((m >>> ((nI 12) &&& 31)) &&& (nI 1)) = (nI 1) → Sat true (d + 10) 183 σ.1 Q 44 [some (vr 233 0), some (vi (nI p)), some (vi b), some (vi m), some (vi x), some (vi ((nI 12) + nI 1))] [] h) ∧ (((m >>> ((nI 12) &&& 31)) &&& (nI 1)) = (nI 1) → CalI true (d + 9) 111 [vr 233 0, vi (nI 12)] h σ.1 (fun x2 s1 => ((x2 = 0 → Sat true (d + 10) 183 σ.1 Q 44 [some (vr 233 0), some (vi (nI p)), some (vi b), some (vi m), some (vi x), some (vi ((nI 12) + nI 1))] [] s1) ∧ (¬ x2 = 0 → (vp_in (nI 12) 12 ∧ CalI true (d + 9) 184 [vr 233 0, vi (nI 12)] s1 σ.1 (fun x4 s3 => Sat true (d + 10) 183 σ.1 Q 44 [some (vr 233 0), some (vi (nI p)), some (vi b), some (vi (m ||| ((hI s1 252 0 12) ||| x4))), some (vi x), some (vi ((nI 12) + nI 1))] [] s3)))))))))
    exact ⟨fun _ => Sat_no 5 (kq m h hf hi), fun g => absurd (Int32.le_refl _) g⟩
  | succ n ih =>
    intro q m h hq hf hi
    have hq12 : q < 12 := by omega
    obtain ⟨i1, i2, i3, i4⟩ := hi
    have no : (bt m q = true → ∀ s, bt (nbM P X rs q) s = true → bt m s = true) → Sat true (d + 10) 183 σ.1 Q 44 [some (vr 233 0), some (vi (nI p)), some (vi b), some (vi m), some (vi x), some (vi (nI (q + 1)))] [] h := fun c => ih (q + 1) m h (by omega) hf ⟨i1, i2, i3, fun e r hr w => by
      by_cases z : r = q
      · rw [z] at w ⊢
        exact c w
      · exact i4 e r (by omega) w⟩
    refine wp_ok (cut := [32, 44]) ma_183 rfl 27 _ _ _ _ ?_
    show (((nI 12) ≤ (nI q) → Sat true (d + 10) 183 σ.1 Q 32 [some (vr 233 0), some (vi (nI p)), some (vi b), some (vi m), some (vi x), some (vi (nI q))] [] h) ∧ (¬ (nI 12) ≤ (nI q) → ((¬ ((m >>> ((nI q) &&& 31)) &&& (nI 1)) = (nI 1) → Sat true (d + 10) 183 σ.1 Q 44 [some (vr 233 0), some (vi (nI p)), some (vi b), some (vi m), some (vi x), some (vi ((nI q) + nI 1))] [] h) ∧ (((m >>> ((nI q) &&& 31)) &&& (nI 1)) = (nI 1) → CalI true (d + 9) 111 [vr 233 0, vi (nI q)] h σ.1 (fun x2 s1 => ((x2 = 0 → Sat true (d + 10) 183 σ.1 Q 44 [some (vr 233 0), some (vi (nI p)), some (vi b), some (vi m), some (vi x), some (vi ((nI q) + nI 1))] [] s1) ∧ (¬ x2 = 0 → (vp_in (nI q) 12 ∧ CalI true (d + 9) 184 [vr 233 0, vi (nI q)] s1 σ.1 (fun x4 s3 => Sat true (d + 10) 183 σ.1 Q 44 [some (vr 233 0), some (vi (nI p)), some (vi b), some (vi (m ||| ((hI s1 252 0 ((nI q).toNatClampNeg)) ||| x4))), some (vi x), some (vi ((nI q) + nI 1))] [] s3)))))))))
    rw [addN]
    refine br_le (by omega) (by omega) (fun g => by omega) (fun _ => in1 m hq12 (fun g => no fun w => by rw [g] at w; cases w) (fun g => cal_i (m_has (d + 8) hq12 (hf.1.2.2.1 q hq12)) hf.2.2.1 (brI (fun g2 => no fun _ s ws => ?_) (fun g2 => ⟨inb hq12 (by omega), cp_i (m_endsOf d hf.1 hf.2.1 hq12) hf.2.2.1 (fun h1 q1 e1 => ?_)⟩))))
    · have e : P q = [] := pnil g2
      unfold nbM at ws
      rw [e] at ws
      have ws : bt (nI 0) s = true := ws
      rw [bt_0] at ws
      cases ws
    · rw [ix (by omega), (hf.2.1.2 q hq12).1.2.2.2.2.1, enL_or]
      refine ih (q + 1) (m ||| nbM P X rs q) h1 (by omega) ⟨q1.1, q1.2.1, hf.2.2.tr q1.2.2⟩ ⟨?_, fun s w => ?_, fun r w => ?_, fun e r hr w s ws => ?_⟩
      · rw [bt_or, i1]
        rfl
      · rw [bt_or, Bool.or_eq_true] at w
        rcases w with w | w
        · exact i2 s w
        · have h12 := nbM_12 ms.1 (MS_r ms) hq12 w
          exact ⟨h12, cl_closed hq12 h12 (i2 q g).2 w⟩
      · rw [bt_or, i3 r w]
        rfl
      · have em : m = x := by
          refine bt_ext fun z _ => ?_
          rw [Bool.eq_iff_iff]
          refine ⟨fun w => ?_, i3 z⟩
          rw [← e, bt_or, w]
          rfl
        rw [bt_or, Bool.or_eq_true] at w ⊢
        by_cases z : r = q
        · rw [z] at ws
          exact Or.inr ws
        · left
          have wm : bt m r = true := by
            rcases w with w | w
            · exact w
            · rw [em, ← e, bt_or, w, Bool.or_true]
          exact i4 em r (by omega) wm s ws
set_option maxRecDepth 6000 in
theorem m_reach (d : Nat) (ms : MS σ P X rs es) (a b : Int32) : PI (d + 10) 183 [vr 233 0, vi a, vi b] σ (reachV P X rs a b) (fun h => MS h P X rs es ∧ FrM SQ σ h) := by
  refine PI_of mt_183 (Nat.le_of_ble_eq_true rfl) fun Q hq => ?_
  unfold reachV at hq
  have n10 : ¬ (nI 1 : Int32) = nI 0 := by decide
  have ref : MS σ P X rs es ∧ FrM SQ σ σ := ⟨ms, FrM.rfl' _ _⟩
  refine wp_ok (cut := [32]) ma_183 rfl 16 _ _ _ _ ?_
  show CalI true (d + 9) 109 [vi a] σ σ.1 (fun x2 s1 => ((¬ x2 = 0 → CalI true (d + 9) 108 [vi b, vi (nI 0), vi (nI 1)] s1 σ.1 (fun x4 s3 => ((¬ x4 = 0 → CalV true (d + 9) 157 [vr 233 0] s3 σ.1 (fun s5 => Sat true (d + 10) 183 σ.1 Q 32 [some (vr 233 0), some (vi a), some (vi b), some (vi ((nI 1) <<< (a &&& 31))), some (vi (nI 0)), none] [] s5)) ∧ (x4 = 0 → (Q (some (vi (-2))) s3 ∧ s3.1 = σ.1))))) ∧ (x2 = 0 → (Q (some (vi (-1))) s1 ∧ s1.1 = σ.1))))
  refine cal_i (m_isPage (d + 8) σ a) rfl (brN (fun h => ?_) (fun h => ?_))
  · rw [if_pos h] at hq
    obtain ⟨p, hp, rfl⟩ := rngI_t (by omega) h
    rw [ix (by omega)] at hq
    refine cal_i (m_inR (d + 9) σ b (m := 1) (by omega)) rfl (brN (fun g => ?_) (fun g => ?_))
    · have hb : b = nI 0 ∨ b = nI 1 := by
        obtain ⟨i, hi, rfl⟩ := rngI_t (by omega) g
        have : i = 0 ∨ i = 1 := by omega
        rcases this with e | e <;> rw [e]
        · exact Or.inl rfl
        · exact Or.inr rfl
      -- the loop has ended
      have ex : ∀ m h, (MS h P X rs es ∧ LdX h P X ∧ FrM SQ σ h) → RxI P X rs p m m 12 → Sat true (d + 10) 183 σ.1 Q 32 [some (vr 233 0), some (vi (nI p)), some (vi b), some (vi m), some (vi m), none] [] h := by
        intro m h hf hi
        have e : m = reM P X rs p := reM_is hp hi.1 (fun s w => (hi.2.1 s w).2) (fun q r hq w w2 => hi.2.2.2 rfl q hq w r w2)
        have hq := hq h ⟨hf.1, hf.2.2⟩
        rw [← e] at hq
        refine wp_ok (cut := [32, 44]) ma_183 rfl 12 _ _ _ _ ?_
        show ((m = m → ((¬ b = 0 → CalI true (d + 9) 141 [vr 233 0] h σ.1 (fun x2 s1 => (Q (some (vi (x2 &&& (m ^^^ (-1))))) s1 ∧ s1.1 = σ.1))) ∧ (b = 0 → (Q (some (vi m)) h ∧ h.1 = σ.1)))) ∧ (¬ m = m → Sat true (d + 10) 183 σ.1 Q 44 [some (vr 233 0), some (vi (nI p)), some (vi b), some (vi m), some (vi m), some (vi (nI 0))] [] h))
        refine ⟨fun _ => ⟨fun w => ?_, fun w => ?_⟩, fun w => absurd rfl w⟩
        · have b1 : b = nI 1 := by
            rcases hb with z | z
            · exact absurd z w
            · exact z
          rw [if_neg (show ¬ b = nI 0 from w), if_pos b1] at hq
          exact cal_i (m_sources (d + 7) hf.1.2.2.1) hf.2.2.1 ⟨hq, hf.2.2.1⟩
        · have w : b = nI 0 := w
          rw [if_pos w] at hq
          exact ⟨hq, hf.2.2.1⟩
      have outer : ∀ (k : Nat) (m x : Int32) (h : Hp), 12 ≤ cnB (bt m) 12 + k → m ≠ x → (MS h P X rs es ∧ LdX h P X ∧ FrM SQ σ h) → RxI P X rs p m m 0 → Sat true (d + 10) 183 σ.1 Q 32 [some (vr 233 0), some (vi (nI p)), some (vi b), some (vi m), some (vi x), none] [] h := by
        intro k
        induction k with
        | zero =>
          intro m x h hk hx hf hi
          refine wp_ok (cut := [32, 44]) ma_183 rfl 12 _ _ _ _ ?_
          show ((m = x → ((¬ b = 0 → CalI true (d + 9) 141 [vr 233 0] h σ.1 (fun x2 s1 => (Q (some (vi (x2 &&& (m ^^^ (-1))))) s1 ∧ s1.1 = σ.1))) ∧ (b = 0 → (Q (some (vi m)) h ∧ h.1 = σ.1)))) ∧ (¬ m = x → Sat true (d + 10) 183 σ.1 Q 44 [some (vr 233 0), some (vi (nI p)), some (vi b), some (vi m), some (vi m), some (vi (nI 0))] [] h))
          refine ⟨fun g => absurd g hx, fun _ => s_mrePass d ms hp (fun m' h' hf' k' => ?_) 12 0 m h (by omega) hf hi⟩
          by_cases c : m' = m
          · subst c
            exact ex m' h' hf' k'
          · exfalso
            have full := cnB_full (f := bt m) (k := 12) (by omega)
            refine c (bt_ext fun z _ => ?_)
            rw [Bool.eq_iff_iff]
            exact ⟨fun w => full z (k'.2.1 z w).1, k'.2.2.1 z⟩
        | succ k ih =>
          intro m x h hk hx hf hi
          refine wp_ok (cut := [32, 44]) ma_183 rfl 12 _ _ _ _ ?_
          show ((m = x → ((¬ b = 0 → CalI true (d + 9) 141 [vr 233 0] h σ.1 (fun x2 s1 => (Q (some (vi (x2 &&& (m ^^^ (-1))))) s1 ∧ s1.1 = σ.1))) ∧ (b = 0 → (Q (some (vi m)) h ∧ h.1 = σ.1)))) ∧ (¬ m = x → Sat true (d + 10) 183 σ.1 Q 44 [some (vr 233 0), some (vi (nI p)), some (vi b), some (vi m), some (vi m), some (vi (nI 0))] [] h))
          refine ⟨fun g => absurd g hx, fun _ => s_mrePass d ms hp (fun m' h' hf' k' => ?_) 12 0 m h (by omega) hf hi⟩
          by_cases c : m' = m
          · subst c
            exact ex m' h' hf' k'
          · obtain ⟨k1, k2, k3, k4⟩ := k'
            refine ih m' m h' ?_ c hf' ⟨k1, k2, fun r w => w, fun _ r hr => absurd hr (Nat.not_lt_zero _)⟩
            have : cnB (bt m) 12 + 1 ≤ cnB (bt m') 12 := by
              refine cnB_lt (fun q _ h => k3 q h) ?_
              by_cases w : ∃ q, q < 12 ∧ bt m q = false ∧ bt m' q = true
              · exact w
              · refine absurd (bt_ext fun z _ => ?_) c
                rw [Bool.eq_iff_iff]
                refine ⟨fun h => ?_, k3 z⟩
                cases e : bt m z with
                | true => rfl
                | false => exact absurd ⟨z, (k2 z h).1, e, h⟩ w
            omega
      refine cp_v (m_lay (d + 4) ms) rfl (fun h1 q1 e1 => outer 12 _ _ h1 (by omega) (fun w => ?_) ⟨q1.1, q1.2.1, q1.2.2.mo fun f k w => Or.inl w⟩ ⟨?_, fun s w => ?_, fun r w => w, fun _ r hr => absurd hr (Nat.not_lt_zero _)⟩)
      · have e1 : bt (bit p) p = true := by rw [bt_bit p hp p (by omega), decide_eq_true rfl]
        have w : bit p = nI 0 := w
        rw [w, bt_0] at e1
        cases e1
      · exact (bt_bit p hp p (by omega)).trans (decide_eq_true rfl)
      · have e := bit_lt hp w
        rw [e]
        exact ⟨hp, cl_seed _ _ p (by rw [bt_bit p hp p (by omega), decide_eq_true rfl]) 11⟩
    · have hb : b ≠ nI 0 ∧ b ≠ nI 1 := by
        refine ⟨fun w => ?_, fun w => ?_⟩
        · rw [w, rngI_n (by omega) (by omega)] at g
          cases g
        · rw [w, rngI_n (by omega) (by omega)] at g
          cases g
      rw [if_neg hb.1, if_neg hb.2] at hq
      exact ⟨hq σ ref, rfl⟩
  · rw [if_neg (fun w => by rw [h] at w; cases w)] at hq
    exact ⟨hq σ ref, rfl⟩
end
