/-! the class: spellTarget, writeTarget -/
def tgL (p q : Nat) (an : Option Anc) : Option Nat := if an = none ∨ q ≠ p then some q else none
def tgW (p q : Nat) (an : Option Anc) : List Nat := txLink (tgL p q an) an
theorem tg_g {p q : Nat} {an : Option Anc} (hq : q < 12) (ga : gAO an) : gEl (.inr (tgL p q an, an)) := by
  refine ⟨fun x hx => ?_, ga, fun hn => ?_⟩
  · unfold tgL at hx
    by_cases c : an = none ∨ q ≠ p
    · rw [if_pos c] at hx; cases hx; exact hq
    · rw [if_neg c] at hx; cases hx
  · unfold tgL at hn
    by_cases c : an = none ∨ q ≠ p
    · rw [if_pos c] at hn; cases hn
    · exact fun w => c (Or.inl w)
theorem txOpt_len {an : Option Anc} (ga : gAO an) : (txOpt an).length ≤ 12 := by
  cases an with
  | none => exact Nat.zero_le _
  | some a =>
    have := (txAnc_le2 (ga a rfl)).2
    show (txAnc a).length + 1 ≤ 12
    omega
theorem txLet_len (l : Option Nat) : (txLet l).length ≤ 1 := by cases l <;> simp [txLet]
theorem tgW_len {p q : Nat} {an : Option Anc} (ga : gAO an) : (tgW p q an).length ≤ 13 := by
  unfold tgW txLink
  rw [List.length_append]
  have := txOpt_len ga
  have := txLet_len (tgL p q an)
  omega
def TgC (h : Hp) (w : List Nat) : Prop := hI h 7 0 4 = nI w.length ∧ Tx (hI h 20 0) 0 w
def STg (f i : Nat) : Prop := (f = 7 ∨ f = 20) ∧ i = 0
theorem add_sub3 (a b c : Int32) : a + (b - c) = a + b - c := by
  rw [Int32.sub_eq_add_neg, Int32.sub_eq_add_neg, Int32.add_assoc]
section
variable {σ : Hp} {P : Nat → List Line} {X : Nat → XA} {rs : List (Pl × Pl)} {es : List En}
set_option maxRecDepth 6000 in
theorem e_spellTarget (d : Nat) (cs : CS σ P X rs es) {p j q : Nat} {k : Lk} {an : Option Anc} (hp : p < 12) (hk : (lkPg p 0 (P p))[j]? = some k) (hq12 : q < 12) (ga : gAO an) : PI (d + 2) 56 [vr 7 0, vi (nI p), vi (nI j), vi (nI q), vl (lN (anO an))] σ (nI ((txPg (P p)).length + (tgW p q an).length - (k.2.2.2 - k.2.2.1))) (fun h => TgC h (tgW p q an) ∧ Fr STg σ h) := by
  refine PI_of mt_56 (Nat.le_of_ble_eq_true rfl) fun Q hq => ?_
  have hP : gP P := fun q hq => ⟨(cs.1 q hq).1, (cs.1 q hq).2.1⟩
  obtain ⟨l1, l2, l3, l4, l5, l6⟩ := lkC cs hP hp hk
  obtain ⟨-, wk1, wk2⟩ := wrL_ok (hP p hp).1 hk (tg_g (p := p) hq12 ga)
  have h160 := (hP p hp).2
  have wl := tgW_len (p := p) (q := q) ga
  have s91 : ∀ h, TgC h (tgW p q an) → Fr STg σ h → Sat true (d + 2) 56 σ.1 Q 91 [some (vr 7 0), some (vi (nI p)), some (vi (nI j)), some (vi (nI q)), some (vl (lN (anO an))), none, none] [] h := by
    intro h t f
    have e10 : hI h 10 0 p = nI (txPg (P p)).length := by rw [(f.2 10 0 (fun w => by have := w.1; omega)).1]; exact (cs.1 p hp).2.2.1
    have e28 : hI h 28 p j = nI (160 * p + k.2.2.1) := by rw [(f.2 28 p (fun w => by have := w.1; omega)).1]; exact l3
    have e29 : hI h 29 p j = nI (160 * p + k.2.2.2) := by rw [(f.2 29 p (fun w => by have := w.1; omega)).1]; exact l4
    refine wp_ok (cut := []) ma_56 rfl 24 _ _ _ _ ?_
    show (vp_in (nI p) 12 ∧ (vp_in (nI p) 12 ∧ ((nI p).toNatClampNeg < 12 ∧ ((nI p).toNatClampNeg < 12 ∧ (vp_in (nI j) 40 ∧ ((nI p).toNatClampNeg < 12 ∧ ((nI p).toNatClampNeg < 12 ∧ (vp_in (nI j) 40 ∧ (Q (some (vi (((hI h 10 0 ((nI p).toNatClampNeg)) + (hI h 7 0 4)) - ((hI h 29 ((nI p).toNatClampNeg) ((nI j).toNatClampNeg)) - (hI h 28 ((nI p).toNatClampNeg) ((nI j).toNatClampNeg)))))) h ∧ h.1 = σ.1)))))))))
    rw [ix (by omega), ix (by omega), t.1, e10, e28, e29, addN, subN (a := 160 * p + k.2.2.2) (b := 160 * p + k.2.2.1) (by omega), subN (by omega)]
    simp only [hp, true_and]
    have i1 : vp_in (nI p) 12 := inb (by omega) (by omega)
    have i2 : vp_in (nI j) 40 := inb (by omega) (by omega)
    refine ⟨i1, i1, i2, i2, ?_, f.1⟩
    rw [show 160 * p + k.2.2.2 - (160 * p + k.2.2.1) = k.2.2.2 - k.2.2.1 by omega]
    exact hq h ⟨t, f⟩
  have s41 : ∀ (w0 : List Nat) (h : Hp), w0.length ≤ 1 → TgC h w0 → Fr STg σ h → tgW p q an = w0 ++ txOpt an → Sat true (d + 2) 56 σ.1 Q 41 [some (vr 7 0), some (vi (nI p)), some (vi (nI j)), some (vi (nI q)), some (vl (lN (anO an))), none, none] [] h := by
    intro w0 h h1 t f e
    cases an with
    | none =>
      refine wp_ok (cut := [91]) ma_56 rfl 27 _ _ _ _ ?_
      show (((lg_cmp (lN (anO none)) (lN 0)) = 0 → Sat true (d + 2) 56 σ.1 Q 91 [some (vr 7 0), some (vi (nI p)), some (vi (nI j)), some (vi (nI q)), some (vl (lN (anO none))), none, none] [] h) ∧ (¬ (lg_cmp (lN (anO none)) (lN 0)) = 0 → (vp_in (hI h 7 0 4) 13 ∧ CalI true (d + 1) 5 [vl (lN (anO none)), vr 20 0, vi ((hI h 7 0 4) + (nI 1))] (setI (setI h 20 0 ((hI h 7 0 4).toNatClampNeg) (vp_nar .char (nI 35))) 7 0 4 ((hI h 7 0 4) + (nI 1))) σ.1 (fun x2 s1 => Sat true (d + 2) 56 σ.1 Q 91 [some (vr 7 0), some (vi (nI p)), some (vi (nI j)), some (vi (nI q)), some (vl (lN (anO none))), none, none] [] (setI s1 7 0 4 (((hI h 7 0 4) + (nI 1)) + x2))))))
      rw [lg_cmp_eq]
      refine ⟨fun _ => s91 h ?_ f, fun g => absurd rfl g⟩
      rw [e]
      show TgC h (w0 ++ [])
      rw [List.append_nil]
      exact t
    | some a =>
      have ga1 := ga a rfl
      have al := txAnc_le2 ga1
      have an0 : ¬ lN (anO (some a)) = lN 0 := fun w => by
        have := (lO_0 ga).mp w
        cases this
      have sp := fun h => e_spell20 d h (o := some a) ga (b := w0.length + 1) (by show w0.length + 1 + (txAnc a).length ≤ 13; omega)
      refine wp_ok (cut := [91]) ma_56 rfl 27 _ _ _ _ ?_
      show (((lg_cmp (lN (anO (some a))) (lN 0)) = 0 → Sat true (d + 2) 56 σ.1 Q 91 [some (vr 7 0), some (vi (nI p)), some (vi (nI j)), some (vi (nI q)), some (vl (lN (anO (some a)))), none, none] [] h) ∧ (¬ (lg_cmp (lN (anO (some a))) (lN 0)) = 0 → (vp_in (hI h 7 0 4) 13 ∧ CalI true (d + 1) 5 [vl (lN (anO (some a))), vr 20 0, vi ((hI h 7 0 4) + (nI 1))] (setI (setI h 20 0 ((hI h 7 0 4).toNatClampNeg) (vp_nar .char (nI 35))) 7 0 4 ((hI h 7 0 4) + (nI 1))) σ.1 (fun x2 s1 => Sat true (d + 2) 56 σ.1 Q 91 [some (vr 7 0), some (vi (nI p)), some (vi (nI j)), some (vi (nI q)), some (vl (lN (anO (some a)))), none, none] [] (setI s1 7 0 4 (((hI h 7 0 4) + (nI 1)) + x2))))))
      rw [lg_cmp_eq, t.1, addN, ix (by omega), nar_c (by omega)]
      refine ⟨fun g => absurd g an0, fun _ => ⟨inb (by omega) (by omega), cal_i (sp _) f.1 ?_⟩⟩
      rw [addN]
      refine s91 _ ?_ ?_
      · have ew : tgW p q (some a) = w0 ++ 35 :: txAnc a := e
        refine ⟨?_, ?_⟩
        · rw [hI_s, ew, List.length_append, List.length_cons]
          show nI (w0.length + 1 + (txAnc a).length) = _
          rw [Nat.add_assoc, Nat.add_comm 1]
        · rw [ew, hI_f _ _ _ (by omega)]
          have row : ∀ i, hI (wrT (setI (setI h 20 0 w0.length (nI 35)) 7 0 4 (nI (w0.length + 1))) 20 (w0.length + 1) (txO (some a))) 20 0 i = if w0.length + 1 ≤ i ∧ i < w0.length + 1 + (txAnc a).length then nI ((txAnc a).getD (i - (w0.length + 1)) 0) else if i = w0.length then nI 35 else hI h 20 0 i := fun i => by
            unfold wrT
            rw [hI_a]
            show (if w0.length + 1 ≤ i ∧ i < w0.length + 1 + (txAnc a).length then _ else _) = _
            by_cases c : w0.length + 1 ≤ i ∧ i < w0.length + 1 + (txAnc a).length
            · rw [if_pos c, if_pos c]
              rfl
            · rw [if_neg c, if_neg c, hI_f _ _ _ (by omega)]
              by_cases c2 : i = w0.length
              · rw [if_pos c2, c2, hI_s]
              · rw [if_neg c2, hI_k _ _ _ _ c2]
          refine Tx_app.mpr ⟨Tx_cong t.2 fun i a1 a2 => ?_, ?_, ?_⟩
          · rw [row, if_neg (by omega), if_neg (by omega)]
          · rw [row, if_neg (by omega), if_pos (by omega)]
          · refine Tx_of fun i hi => ?_
            rw [row, if_pos ⟨by omega, by omega⟩, show 0 + w0.length + 1 + i - (w0.length + 1) = i by omega]
      · exact (((f.sI (f := 20) ⟨Or.inr rfl, rfl⟩ _ _).sI (f := 7) ⟨Or.inl rfl, rfl⟩ _ _).aI (f := 20) ⟨Or.inr rfl, rfl⟩ _).sI (f := 7) ⟨Or.inl rfl, rfl⟩ _ _
  have f0 : Fr STg σ (setI σ 7 0 4 (nI 0)) := (Fr.rfl' _ _).sI (f := 7) ⟨Or.inl rfl, rfl⟩ _ _
  have s17 : tgL p q an = some q → Sat true (d + 2) 56 σ.1 Q 17 [some (vr 7 0), some (vi (nI p)), some (vi (nI j)), some (vi (nI q)), some (vl (lN (anO an))), none, none] [] (setI σ 7 0 4 (nI 0)) := by
    intro e
    refine wp_ok (cut := [41]) ma_56 rfl 15 _ _ _ _ ?_
    show (vp_in (nI 0) 13 ∧ Sat true (d + 2) 56 σ.1 Q 41 [some (vr 7 0), some (vi (nI p)), some (vi (nI j)), some (vi (nI q)), some (vl (lN (anO an))), none, none] [] (setI (setI (setI σ 7 0 4 (nI 0)) 20 0 0 (vp_nar .char ((((nI 65) + (nI q)).toUInt32 % 65536).toInt32))) 7 0 4 ((nI 0) + (nI 1))))
    rw [addN, addN, i2c_n (by omega), nar_c (by omega)]
    refine ⟨inb (by omega) (by omega), s41 [65 + q] _ (Nat.le_refl _) ⟨?_, ?_, trivial⟩ ((f0.sI (f := 20) ⟨Or.inr rfl, rfl⟩ _ _).sI (f := 7) ⟨Or.inl rfl, rfl⟩ _ _) ?_⟩
    · rw [hI_s]
      rfl
    · rw [hI_f _ _ _ (by omega), hI_s]
    · unfold tgW txLink
      rw [e]
      rfl
  refine wp_ok (cut := [17, 41]) ma_56 rfl 10 _ _ _ _ ?_
  show (((lg_cmp (lN (anO an)) (lN 0)) = 0 → Sat true (d + 2) 56 σ.1 Q 17 [some (vr 7 0), some (vi (nI p)), some (vi (nI j)), some (vi (nI q)), some (vl (lN (anO an))), none, none] [] (setI σ 7 0 4 (nI 0))) ∧ (¬ (lg_cmp (lN (anO an)) (lN 0)) = 0 → (((nI q) = (nI p) → Sat true (d + 2) 56 σ.1 Q 41 [some (vr 7 0), some (vi (nI p)), some (vi (nI j)), some (vi (nI q)), some (vl (lN (anO an))), none, none] [] (setI σ 7 0 4 (nI 0))) ∧ (¬ (nI q) = (nI p) → Sat true (d + 2) 56 σ.1 Q 17 [some (vr 7 0), some (vi (nI p)), some (vi (nI j)), some (vi (nI q)), some (vl (lN (anO an))), none, none] [] (setI σ 7 0 4 (nI 0))))))
  rw [lg_cmp_eq, lO_0 ga]
  refine ⟨fun g => s17 (if_pos (Or.inl g)), fun g => br_eq (by omega) (by omega) (fun g2 => ?_) (fun g2 => s17 (if_pos (Or.inr g2)))⟩
  have e : tgL p q an = none := if_neg (fun w => w.elim g (fun u => u g2))
  refine s41 [] _ (Nat.zero_le _) ⟨hI_s _ _ _ _ _, trivial⟩ f0 ?_
  unfold tgW txLink
  rw [e]
  rfl
theorem ExC_sk {h : Hp} {P P' : Nat → List Line} (hs : ∀ q, (P' q).map skel = (P q).map skel) {r : Nat} {x : XA} (k : ExC h P r x) : ExC h P' r x := by
  obtain ⟨k1, k2, k3, k4, k5⟩ := k
  exact ⟨k1, k2, k3, fun j hj => k4 j (by rw [← nHd_sk (hs r)]; exact hj), k5⟩
set_option maxRecDepth 6000 in
theorem e_writeTarget (d : Nat) (cs : CS σ P (XF P) rs es) (gx : gX P) {p j : Nat} {k : Lk} {l : Option Nat} {an : Option Anc} (hp : p < 12) (hk : (lkPg p 0 (P p))[j]? = some k) (gl : gEl (.inr (l, an))) (w13 : (txLink l an).length ≤ 13) (tg : TgC σ (txLink l an)) (h160 : (txPg (P p)).length + (txLink l an).length - (k.2.2.2 - k.2.2.1) ≤ 160) : PV (d + 6) 57 [vr 7 0, vi (nI p), vi (nI j)] σ (fun h => CS h (updP P p (wrL (P p) k (txLink l an))) (XF (updP P p (wrL (P p) k (txLink l an)))) rs es ∧ gX (updP P p (wrL (P p) k (txLink l an))) ∧ Fr SSo σ h) := by
  refine PV_of mt_57 (Nat.le_of_ble_eq_true rfl) fun Q hq => ?_
  have hP : gP P := fun q hq => ⟨(cs.1 q hq).1, (cs.1 q hq).2.1⟩
  obtain ⟨l1, l2, l3, l4, l5, l6⟩ := lkC cs hP hp hk
  obtain ⟨⟨w1, w2, w3⟩, wk1, wk2⟩ := wrL_ok (hP p hp).1 hk gl
  have o160 := (hP p hp).2
  obtain ⟨T, eT⟩ : ∃ T, T = txPg (P p) := ⟨_, rfl⟩
  obtain ⟨w, ew⟩ : ∃ w, w = txLink l an := ⟨_, rfl⟩
  rw [← eT] at wk2 o160 h160 w3
  rw [← ew] at w1 w2 w3 w13 tg h160
  have e10 : hI σ 10 0 p = nI T.length := by rw [eT]; exact (cs.1 p hp).2.2.1
  have oT : Tx (hI σ 9 0) (160 * p) T := by rw [eT]; exact (cs.1 p hp).2.2.2
  rw [← ew] at hq
  have len' : (txPg (wrL (P p) k w)).length = k.2.2.1 + w.length + (T.length - k.2.2.2) := by
    rw [w3, List.length_append, List.length_append, List.length_take, List.length_drop]
    omega
  have sk := upd_sk (P := P) (p := p) w2
  refine wp_ok (cut := []) ma_57 rfl 69 _ _ _ _ ?_
  show (vp_in (nI p) 12 ∧ ((nI p).toNatClampNeg < 12 ∧ ((nI p).toNatClampNeg < 12 ∧ (vp_in (nI j) 40 ∧ (vp_in (nI p) 12 ∧ ((nI p).toNatClampNeg < 12 ∧ ((nI p).toNatClampNeg < 12 ∧ (vp_in (nI j) 40 ∧ (vp_in (nI p) 12 ∧ (¬ (hI σ 29 ((nI p).toNatClampNeg) ((nI j).toNatClampNeg)) < 0 ∧ ¬ ((hI σ 28 ((nI p).toNatClampNeg) ((nI j).toNatClampNeg)) + (hI σ 7 0 4)) < 0 ∧ ¬ ((((nI p) * (nI 160)) + (hI σ 10 0 ((nI p).toNatClampNeg))) - (hI σ 29 ((nI p).toNatClampNeg) ((nI j).toNatClampNeg))) < 0 ∧ (hI σ 29 ((nI p).toNatClampNeg) ((nI j).toNatClampNeg)).toNatClampNeg + ((((nI p) * (nI 160)) + (hI σ 10 0 ((nI p).toNatClampNeg))) - (hI σ 29 ((nI p).toNatClampNeg) ((nI j).toNatClampNeg))).toNatClampNeg ≤ 1920 ∧ ((hI σ 28 ((nI p).toNatClampNeg) ((nI j).toNatClampNeg)) + (hI σ 7 0 4)).toNatClampNeg + ((((nI p) * (nI 160)) + (hI σ 10 0 ((nI p).toNatClampNeg))) - (hI σ 29 ((nI p).toNatClampNeg) ((nI j).toNatClampNeg))).toNatClampNeg ≤ 1920 ∧ (¬ (nI 0) < 0 ∧ ¬ (hI σ 28 ((nI p).toNatClampNeg) ((nI j).toNatClampNeg)) < 0 ∧ ¬ (hI σ 7 0 4) < 0 ∧ 0 + (hI σ 7 0 4).toNatClampNeg ≤ 13 ∧ (hI σ 28 ((nI p).toNatClampNeg) ((nI j).toNatClampNeg)).toNatClampNeg + (hI σ 7 0 4).toNatClampNeg ≤ 1920 ∧ (vp_in (nI p) 12 ∧ (vp_in (nI p) 12 ∧ CalV true (d + 5) 51 [vr 7 0, vi (nI p)] (setI (cpI (cpI σ 9 0 ((hI σ 29 ((nI p).toNatClampNeg) ((nI j).toNatClampNeg)).toNatClampNeg) 9 0 (((hI σ 28 ((nI p).toNatClampNeg) ((nI j).toNatClampNeg)) + (hI σ 7 0 4)).toNatClampNeg) (((((nI p) * (nI 160)) + (hI σ 10 0 ((nI p).toNatClampNeg))) - (hI σ 29 ((nI p).toNatClampNeg) ((nI j).toNatClampNeg))).toNatClampNeg)) 20 0 0 9 0 ((hI σ 28 ((nI p).toNatClampNeg) ((nI j).toNatClampNeg)).toNatClampNeg) ((hI σ 7 0 4).toNatClampNeg)) 10 0 ((nI p).toNatClampNeg) ((hI σ 10 0 ((nI p).toNatClampNeg)) + ((hI σ 7 0 4) - ((hI σ 29 ((nI p).toNatClampNeg) ((nI j).toNatClampNeg)) - (hI σ 28 ((nI p).toNatClampNeg) ((nI j).toNatClampNeg)))))) σ.1 (fun s1 => (Q none s1 ∧ s1.1 = σ.1)))))))))))))))
  have hv : hI (cpI σ 9 0 (160 * p + k.2.2.2) 9 0 (160 * p + k.2.2.1 + w.length) (160 * p + T.length - (160 * p + k.2.2.2))) 20 0 = hI σ 20 0 := hI_cpf _ (by omega)
  rw [ix (n := p) (by omega), ix (n := j) (by omega), l3, l4, e10, tg.1]
  rw [mulN, addN, addN, Nat.mul_comm p 160, subN (a := 160 * p + T.length) (b := 160 * p + k.2.2.2) (by omega), subN (a := 160 * p + k.2.2.2) (b := 160 * p + k.2.2.1) (by omega), add_sub3, addN, subN (by omega), ix (n := 160 * p + k.2.2.2) (by omega), ix (n := 160 * p + k.2.2.1 + w.length) (by omega), ix (n := 160 * p + T.length - (160 * p + k.2.2.2)) (by omega), ix (n := 160 * p + k.2.2.1) (by omega), ix (n := w.length) (by omega)]
  simp only [hp, true_and]
  have i1 : vp_in (nI p) 12 := inb (by omega) (by omega)
  have i2 : vp_in (nI j) 40 := inb (by omega) (by omega)
  refine ⟨i1, i2, i1, i2, i1, nn0 _ (by omega), nn0 _ (by omega), nn0 _ (by omega), by omega, by omega, nn0 0 (by omega), nn0 _ (by omega), nn0 _ (by omega), by omega, by omega, i1, i1, ?_⟩
  have fr1 : Fr SSo σ (setI (cpI (cpI σ 9 0 (160 * p + k.2.2.2) 9 0 (160 * p + k.2.2.1 + w.length) (160 * p + T.length - (160 * p + k.2.2.2))) 20 0 0 9 0 (160 * p + k.2.2.1) w.length) 10 0 p (nI (T.length + w.length - (160 * p + k.2.2.2 - (160 * p + k.2.2.1))))) := (((Fr.rfl' SSo σ).cI (g := 9) (Or.inl ⟨Or.inl rfl, rfl⟩)).cI (g := 9) (Or.inl ⟨Or.inl rfl, rfl⟩)).sI (f := 10) (Or.inl ⟨Or.inr rfl, rfl⟩) _ _
  generalize eh : setI (cpI (cpI σ 9 0 (160 * p + k.2.2.2) 9 0 (160 * p + k.2.2.1 + w.length) (160 * p + T.length - (160 * p + k.2.2.2))) 20 0 0 9 0 (160 * p + k.2.2.1) w.length) 10 0 p (nI (T.length + w.length - (160 * p + k.2.2.2 - (160 * p + k.2.2.1)))) = h1 at fr1 ⊢
  have row : ∀ i, hI h1 9 0 i = if 160 * p + k.2.2.1 ≤ i ∧ i < 160 * p + k.2.2.1 + w.length then hI σ 20 0 (i - (160 * p + k.2.2.1)) else if 160 * p + k.2.2.1 + w.length ≤ i ∧ i < 160 * p + k.2.2.1 + w.length + (T.length - k.2.2.2) then hI σ 9 0 (160 * p + k.2.2.2 + (i - (160 * p + k.2.2.1 + w.length))) else hI σ 9 0 i := fun i => by
    rw [← eh, hI_f _ _ _ (by omega), hI_cp, hv]
    by_cases c : 160 * p + k.2.2.1 ≤ i ∧ i < 160 * p + k.2.2.1 + w.length
    · rw [if_pos c, if_pos c, Nat.zero_add]
    · rw [if_neg c, if_neg c, hI_cp]
      rw [show 160 * p + T.length - (160 * p + k.2.2.2) = T.length - k.2.2.2 by omega]
  have src : ∀ q, q < 12 → SrcC h1 0 q (updP P p (wrL (P p) k w) q) := by
    intro q hq
    by_cases c : q = p
    · rw [c, updP_s]
      refine ⟨w1, by omega, ?_, ?_⟩
      · rw [← eh, hI_s, len']
        congr 1
        omega
      · rw [w3]
        have t1 : Tx (hI σ 9 0) (160 * p) (T.take k.2.2.1) := (Tx_app.mp (by rw [List.take_append_drop]; exact oT : Tx (hI σ 9 0) (160 * p) (T.take k.2.2.1 ++ T.drop k.2.2.1))).1
        have t2 : Tx (hI σ 9 0) (160 * p + (T.take k.2.2.2).length) (T.drop k.2.2.2) := (Tx_app.mp (by rw [List.take_append_drop]; exact oT : Tx (hI σ 9 0) (160 * p) (T.take k.2.2.2 ++ T.drop k.2.2.2))).2
        have lt1 : (T.take k.2.2.1).length = k.2.2.1 := by rw [List.length_take]; omega
        have lt2 : (T.take k.2.2.2).length = k.2.2.2 := by rw [List.length_take]; omega
        rw [lt2] at t2
        refine Tx_app.mpr ⟨Tx_cong t1 fun i a1 a2 => ?_, Tx_app.mpr ⟨?_, ?_⟩⟩
        · rw [lt1] at a2
          rw [row, if_neg (by omega), if_neg (by omega)]
        · rw [lt1]
          refine Tx_sh tg.2 fun i hi => ?_
          rw [row, if_pos ⟨by omega, by omega⟩]
          congr 1
          omega
        · rw [lt1]
          refine Tx_sh t2 fun i hi => ?_
          rw [List.length_drop] at hi
          rw [row, if_neg (by omega), if_pos ⟨by omega, by omega⟩]
          congr 1
          omega
    · rw [updP_o _ _ c]
      obtain ⟨s1, s2, s3, s4⟩ := cs.1 q hq
      refine ⟨s1, s2, ?_, Tx_cong s4 fun i a b => ?_⟩
      · rw [← eh, hI_k _ _ _ _ c, hI_cpf _ (by omega), hI_cpf _ (by omega)]
        exact s3
      · rw [row, if_neg (by omega), if_neg (by omega)]
  have e21 : ∀ g i, 11 ≤ g → g ≤ 37 → hI h1 g i = hI σ g i ∧ hL h1 g i = hL σ g i := fun g i a b => by
    rw [← eh]
    exact ⟨by rw [hI_f _ _ _ (by omega), hI_cpf _ (by omega), hI_cpf _ (by omega)], rfl⟩
  have own : hI h1 21 p 0 = nI p := by rw [(e21 21 p (by omega) (by omega)).1]; exact (cs.2.1 p hp).1.1
  refine cp_v (e_readSource d hp own (by have := src p hp; rw [updP_s] at this; exact this)) fr1.1 (fun h2 q2 e2 => ?_)
  have fi : Fi (fun f i => ((f = 9 ∨ f = 10) ∧ i = 0)) σ h1 := fun f i n => by
    rw [← eh]
    refine ⟨?_, rfl⟩
    by_cases c : f = 10 ∧ i = 0
    · exact absurd ⟨Or.inr c.1, c.2⟩ n
    · rw [hI_f _ _ _ (by omega), hI_cpf _ (by omega), hI_cpf _ (by omega)]
  have fr2 : Fr SSo σ h2 := fr1.tr (q2.2.mo fun f i w => Or.inr ⟨w.1.1, by have := w.1.2; omega⟩)
  refine ⟨hq h2 ⟨⟨fun q hq => ?_, fun q hq => ?_, fun q hq => ?_, ?_, ?_⟩, gX_sk sk gx, fr2⟩, e2⟩
  · exact SrcC_fr q2.2 (fun w => by have := w.1.1; omega) (fun w => by have := w.1.1; omega) (src q hq)
  · by_cases c : q = p
    · rw [c, updP_s]; exact q2.1
    · rw [updP_o _ _ c]
      exact OutC_fr q2.2 (fun g a b w => c w.2) (OutC_fr (h := asIn σ h1) fi.fr (fun g a b w => by omega) (cs.2.1 q hq))
  · rw [XF_sk sk]
    refine ExC_sk sk (ExC_cong (fun f a b => ?_) (cs.2.2.1 q hq))
    have u := q2.2.2 f q (fun w => by have := w.1.2; omega)
    have v := e21 f q (by omega) b
    exact ⟨u.1.trans v.1, u.2.1.trans v.2⟩
  · have h8 : ∀ g, 8 ≤ g → g ≤ 17 → g ≠ 9 → g ≠ 10 → hI h2 g 0 = hI σ g 0 ∧ hL h2 g 0 = hL σ g 0 := fun g a b c e => by
      have := fr2.2 g 0 (fun w => by unfold SSo at w; omega)
      exact ⟨this.1, this.2.1⟩
    obtain ⟨r1, r2, r3⟩ := cs.2.2.2.1
    exact ⟨by rw [(h8 8 (by omega) (by omega) (by omega) (by omega)).1]; exact r1, r2, All_mo r3 fun j y _ w => ⟨by rw [(h8 11 (by omega) (by omega) (by omega) (by omega)).1]; exact w.1, by rw [(h8 12 (by omega) (by omega) (by omega) (by omega)).2]; exact w.2.1, by rw [(h8 13 (by omega) (by omega) (by omega) (by omega)).1]; exact w.2.2.1, by rw [(h8 14 (by omega) (by omega) (by omega) (by omega)).2]; exact w.2.2.2.1, w.2.2.2.2⟩⟩
  · have h8 : ∀ g, 8 ≤ g → g ≤ 17 → g ≠ 9 → g ≠ 10 → hI h2 g 0 = hI σ g 0 ∧ hL h2 g 0 = hL σ g 0 := fun g a b c e => by
      have := fr2.2 g 0 (fun w => by unfold SSo at w; omega)
      exact ⟨this.1, this.2.1⟩
    obtain ⟨r1, r2, r3⟩ := cs.2.2.2.2
    exact ⟨by rw [(h8 8 (by omega) (by omega) (by omega) (by omega)).1]; exact r1, r2, All_mo r3 fun j y _ w => ⟨by rw [(h8 15 (by omega) (by omega) (by omega) (by omega)).1]; exact w.1, by rw [(h8 16 (by omega) (by omega) (by omega) (by omega)).2]; exact w.2.1, by rw [(h8 17 (by omega) (by omega) (by omega) (by omega)).1]; exact w.2.2.1, w.2.2.2⟩⟩
end
