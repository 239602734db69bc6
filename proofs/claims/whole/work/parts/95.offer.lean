/-! the class's Mender: offer, offerHeadings -/
abbrev Bs : Type := Nat × Nat × Int32 × Option Anc
def ofF (b : Bs) (c pg : Nat) (hd : Int32) (an : Option Anc) : Bs := if c < b.1 then (c, pg, hd, an) else b
def mvB (ls : List Line) (y : Hd) (dg : Option Nat) : Bool := match y.2.2.2, dg with
  | some s, some g => (match (secs ls)[s]? with
    | some z => decide (z.2 = g)
    | none => false)
  | _, _ => false
def prH (ls : List Line) (a : Anc) (dg : Option Nat) (extra : Nat) (y : Hd) : Nat := if mvB ls y dg = true then 1 else 2 * dist (txAnc a) (txAnc y.2.2.1) + extra
def ofH (ls : List Line) (a : Anc) (dg : Option Nat) (p extra : Nat) : List Hd → Nat → Bs → Bs
  | [], _, b => b
  | y :: r, j, b => ofH ls a dg p extra r (j + 1) (ofF b (prH ls a dg extra y) p (nI j) (some y.2.2.1))
def dgI (dg : Option Nat) : Int32 := match dg with
  | none => (-1)
  | some g => nI g
def MnC (h : Hp) (b : Bs) : Prop := hI h 229 0 1 = nI b.1 ∧ hI h 229 0 2 = nI b.2.1 ∧ hI h 229 0 3 = b.2.2.1 ∧ hL h 229 0 4 = lN (anO b.2.2.2) ∧ b.1 ≤ 1000 ∧ b.2.1 < 12 ∧ gAO b.2.2.2
def S229 (f _ : Nat) : Prop := f = 229
def MW (h : Hp) (a : Anc) : Prop := hL h 229 0 5 = lN (anC a) ∧ hI h 229 0 7 = nI (txAnc a).length ∧ ∀ k, k < (txAnc a).length → hI h 230 0 k = nI ((txAnc a).getD k 0)
def SMn (f _ : Nat) : Prop := f = 229 ∨ f = 231 ∨ f = 232
section
variable {σ : Hp} {P : Nat → List Line} {X : Nat → XA} {rs : List (Pl × Pl)} {es : List En}
theorem e_offer (d : Nat) {b : Bs} {c pg : Nat} {hd : Int32} {an : Option Anc} (hb : MnC σ b) (hc : c ≤ 3000) (hp : pg < 12) (ga : gAO an) : PV d 18 [vr 229 0, vi (nI c), vi (nI pg), vi hd, vl (lN (anO an))] σ (fun h => MnC h (ofF b c pg hd an) ∧ hL h 229 0 5 = hL σ 229 0 5 ∧ hI h 229 0 7 = hI σ 229 0 7 ∧ Fr S229 σ h) := by
  refine PV_of mt_18 (Nat.le_of_ble_eq_true rfl) fun Q hq => ?_
  obtain ⟨b1, b2, b3, b4, b5, b6, b7⟩ := hb
  unfold ofF at hq
  refine wp_ok (cut := []) ma_18 rfl 17 _ _ _ _ ?_
  show (((hI σ 229 0 1) ≤ (nI c) → (Q none σ ∧ σ.1 = σ.1)) ∧ (¬ (hI σ 229 0 1) ≤ (nI c) → (Q none (setL (setI (setI (setI σ 229 0 1 (nI c)) 229 0 2 (nI pg)) 229 0 3 hd) 229 0 4 (lN (anO an))) ∧ σ.1 = σ.1)))
  rw [b1]
  refine br_le (by omega) (by omega) (fun g => ⟨?_, rfl⟩) (fun g => ⟨?_, rfl⟩)
  · rw [if_neg (by omega)] at hq
    exact hq σ ⟨⟨b1, b2, b3, b4, b5, b6, b7⟩, rfl, rfl, Fr.rfl' _ _⟩
  · rw [if_pos g] at hq
    refine hq _ ⟨⟨?_, ?_, ?_, ?_, ?_, hp, ga⟩, ?_, ?_, ?_⟩
    · simp (disch := omega) only [hI_s, hI_k, hI_f, hI_sL, hL_sI, hL_s, hL_k, hL_f]
    · simp (disch := omega) only [hI_s, hI_k, hI_f, hI_sL, hL_sI, hL_s, hL_k, hL_f]
    · simp (disch := omega) only [hI_s, hI_k, hI_f, hI_sL, hL_sI, hL_s, hL_k, hL_f]
    · simp (disch := omega) only [hI_s, hI_k, hI_f, hI_sL, hL_sI, hL_s, hL_k, hL_f]
    · show c ≤ 1000
      omega
    · simp (disch := omega) only [hI_s, hI_k, hI_f, hI_sL, hL_sI, hL_s, hL_k, hL_f]
    · simp (disch := omega) only [hI_s, hI_k, hI_f, hI_sL, hL_sI, hL_s, hL_k, hL_f]
    · exact ((((Fr.rfl' S229 σ).sI (f := 229) rfl _ _).sI (f := 229) rfl _ _).sI (f := 229) rfl _ _).sL (f := 229) rfl _ _
theorem MW_fr {S : Nat → Nat → Prop} {h : Hp} {a : Anc} (f : Fr S σ h) (n : ¬ S 230 0) (e5 : hL h 229 0 5 = hL σ 229 0 5) (e7 : hI h 229 0 7 = hI σ 229 0 7) (k : MW σ a) : MW h a := ⟨e5.trans k.1, e7.trans k.2.1, fun i hi => by rw [(f.2 230 0 n).1]; exact k.2.2 i hi⟩
theorem div2 {k : Nat} (h : k < 2147483648) : nI k / nI 2 = nI (k / 2) := pk_div h (by decide) (by decide)
theorem ofF_st {b : Bs} {a y : Anc} {e : Nat} (hb : e < b.1) (pg : Nat) (hd : Int32) (an : Option Anc) : ofF b (2 * stF (txAnc a) (txAnc y) ((b.1 - e + 1) / 2) + e) pg hd an = ofF b (2 * dist (txAnc a) (txAnc y) + e) pg hd an := by
  obtain ⟨h1, h2⟩ := stF_p (txAnc a) (txAnc y) ((b.1 - e + 1) / 2)
  by_cases c : dist (txAnc a) (txAnc y) < (b.1 - e + 1) / 2
  · rw [h1 c]
  · have := h2 (by omega)
    unfold ofF
    rw [if_neg (by omega), if_neg (by omega)]
set_option maxRecDepth 6000 in
theorem e_offerHeadings (d : Nat) (cs : CS σ P X rs es) (hP : gP P) (hX : ∀ p, p < 12 → XFin P p (X p) ∧ (X p).2.2.1.length ≤ 100) {p e : Nat} {dg : Option Nat} {a : Anc} {b : Bs} (hp : p < 12) (he : e ≤ 4) (ga : gAnc a) (hdg : ∀ g, dg = some g → g < 1000003) (hb : MnC σ b) (hw : MW σ a) : PV (d + 3) 17 [vr 229 0, vi (nI p), vi (nI e), vi (dgI dg)] σ (fun h => MnC h (ofH (P p) a dg p e (X p).2.2.1 0 b) ∧ MW h a ∧ Fr SMn σ h) := by
  refine PV_of mt_17 (Nat.le_of_ble_eq_true rfl) fun Q hq => ?_
  have hdi := (XFin_hd hP hp (hX p hp).1).2.2
  have h100 := (hX p hp).2
  have loop : ∀ (t c : List Hd) (b : Bs) (h : Hp), (X p).2.2.1 = c ++ t → MnC h b → MW h a → Fr SMn σ h → (∀ h, MnC h (ofH (P p) a dg p e t c.length b) → MW h a → Fr SMn σ h → Q none h) → Sat true (d + 3) 17 σ.1 Q 14 [some (vr 229 0), some (vi (nI p)), some (vi (nI e)), some (vi (dgI dg)), some (vr 32 p), some (vi (nI c.length)), none, none, none, none] [] h := by
    intro t
    induction t with
    | nil =>
      intro c b h ec mb mw f kq
      rw [List.append_nil] at ec
      have e2 : hI h 32 p 2 = nI c.length := by rw [(f.2 32 p (fun w => by rcases w with w | w | w <;> omega)).1, (cs.2.2.1 p hp).2.2.1.1, ec]
      refine wp_ok (cut := [14, 83]) ma_17 rfl 36 _ _ _ _ ?_
      show (p < 12 ∧ (((hI h 32 p 2) ≤ (nI c.length) → (Q none h ∧ h.1 = σ.1)) ∧ (¬ (hI h 32 p 2) ≤ (nI c.length) → (p < 12 ∧ (p < 12 ∧ (vp_in (nI c.length) 100 ∧ (p < 12 ∧ (p < 12 ∧ (vp_in (nI c.length) 100 ∧ (((hI h 36 p ((nI c.length).toNatClampNeg)) = (-6) → Sat true (d + 3) 17 σ.1 Q 83 [some (vr 229 0), some (vi (nI p)), some (vi (nI e)), some (vi (dgI dg)), some (vr 32 p), some (vi (nI c.length)), some (vl (hL h 35 p ((nI c.length).toNatClampNeg))), none, some (vi (hI h 36 p ((nI c.length).toNatClampNeg))), none] [] h) ∧ (¬ (hI h 36 p ((nI c.length).toNatClampNeg)) = (-6) → (vp_in (nI p) 12 ∧ ((nI p).toNatClampNeg < 12 ∧ ((nI p).toNatClampNeg < 12 ∧ (vp_in (hI h 36 p ((nI c.length).toNatClampNeg)) 53 ∧ ((¬ (hI h 31 ((nI p).toNatClampNeg) ((hI h 36 p ((nI c.length).toNatClampNeg)).toNatClampNeg)) = (dgI dg) → Sat true (d + 3) 17 σ.1 Q 83 [some (vr 229 0), some (vi (nI p)), some (vi (nI e)), some (vi (dgI dg)), some (vr 32 p), some (vi (nI c.length)), some (vl (hL h 35 p ((nI c.length).toNatClampNeg))), none, some (vi (hI h 36 p ((nI c.length).toNatClampNeg))), none] [] h) ∧ ((hI h 31 ((nI p).toNatClampNeg) ((hI h 36 p ((nI c.length).toNatClampNeg)).toNatClampNeg)) = (dgI dg) → CalV true (d + 2) 18 [vr 229 0, vi (nI 1), vi (nI p), vi (nI c.length), vl (hL h 35 p ((nI c.length).toNatClampNeg))] h σ.1 (fun s1 => Sat true (d + 3) 17 σ.1 Q 14 [some (vr 229 0), some (vi (nI p)), some (vi (nI e)), some (vi (dgI dg)), some (vr 32 p), some (vi ((nI c.length) + nI 1)), some (vl (hL h 35 p ((nI c.length).toNatClampNeg))), none, some (vi (hI h 36 p ((nI c.length).toNatClampNeg))), none] [] s1))))))))))))))))))
      rw [e2]
      exact ⟨hp, fun _ => ⟨kq h mb mw f, f.1⟩, fun g => absurd (Int32.le_refl _) g⟩
    | cons y t ih =>
      intro c b h ec mb mw f kq
      have hlen : (X p).2.2.1.length = c.length + (t.length + 1) := by rw [ec, List.length_append, List.length_cons]
      have hy : (X p).2.2.1[c.length]? = some y := by rw [ec, List.getElem?_append_right (Nat.le_refl _), Nat.sub_self]; rfl
      have e2 : hI h 32 p 2 = nI (c.length + (t.length + 1)) := by rw [(f.2 32 p (fun w => by rcases w with w | w | w <;> omega)).1, (cs.2.2.1 p hp).2.2.1.1, hlen]
      have hc := (cs.2.2.1 p hp).2.2.1.2.2 c.length y hy
      have e35 : hL h 35 p c.length = lN (anC y.2.2.1) := by rw [(f.2 35 p (fun w => by rcases w with w | w | w <;> omega)).2.1]; exact hc.2.2.1
      have e36 : hI h 36 p c.length = secI y.2.2.2 := by rw [(f.2 36 p (fun w => by rcases w with w | w | w <;> omega)).1]; exact hc.2.2.2.1
      have gy := hc.2.2.2.2
      have gs : gAO (some y.2.2.1) := fun x hx => by cases hx; exact gy
      -- on to the next one
      have nx : ∀ (h' : Hp) (x6 x8 x9 : Option AV), MnC h' (ofF b (prH (P p) a dg e y) p (nI c.length) (some y.2.2.1)) → MW h' a → Fr SMn σ h' → Sat true (d + 3) 17 σ.1 Q 14 [some (vr 229 0), some (vi (nI p)), some (vi (nI e)), some (vi (dgI dg)), some (vr 32 p), some (vi (nI (c.length + 1))), x6, none, x8, x9] [] h' := by
        intro h' x6 x8 x9 m1 m2 m3
        have := ih (c ++ [y]) _ h' (by rw [ec, List.append_assoc]; rfl) m1 m2 m3 (fun h k1 k2 k3 => kq h (by rw [List.length_append] at k1; exact k1) k2 k3)
        rw [List.length_append] at this
        exact Sat_no 6 (Sat_no 8 (Sat_no 9 this))
      -- not moved
      have s83 : mvB (P p) y dg = false → Sat true (d + 3) 17 σ.1 Q 83 [some (vr 229 0), some (vi (nI p)), some (vi (nI e)), some (vi (dgI dg)), some (vr 32 p), some (vi (nI c.length)), some (vl (lN (anC y.2.2.1))), none, some (vi (secI y.2.2.2)), none] [] h := by
        intro hm
        have ep : prH (P p) a dg e y = 2 * dist (txAnc a) (txAnc y.2.2.1) + e := by unfold prH; rw [if_neg (by rw [hm]; exact Bool.false_ne_true)]
        rw [ep] at nx
        obtain ⟨b1, b2, b3, b4, b5, b6, b7⟩ := mb
        refine wp_ok (cut := [14]) ma_17 rfl 28 _ _ _ _ ?_
        show (((hI h 229 0 1) ≤ (nI e) → Sat true (d + 3) 17 σ.1 Q 14 [some (vr 229 0), some (vi (nI p)), some (vi (nI e)), some (vi (dgI dg)), some (vr 32 p), some (vi ((nI c.length) + nI 1)), some (vl (lN (anC y.2.2.1))), none, some (vi (secI y.2.2.2)), none] [] h) ∧ (¬ (hI h 229 0 1) ≤ (nI e) → (¬ (nI 2) = 0 ∧ CalI true (d + 2) 19 [vr 229 0, vl (lN (anC y.2.2.1)), vi ((((hI h 229 0 1) - (nI e)) + (nI 1)) / (nI 2))] h σ.1 (fun x2 s1 => CalV true (d + 2) 18 [vr 229 0, vi (((nI 2) * x2) + (nI e)), vi (nI p), vi (nI c.length), vl (lN (anC y.2.2.1))] s1 σ.1 (fun s3 => Sat true (d + 3) 17 σ.1 Q 14 [some (vr 229 0), some (vi (nI p)), some (vi (nI e)), some (vi (dgI dg)), some (vr 32 p), some (vi ((nI c.length) + nI 1)), some (vl (lN (anC y.2.2.1))), none, some (vi (secI y.2.2.2)), some (vi ((((hI h 229 0 1) - (nI e)) + (nI 1)) / (nI 2)))] [] s3)))))
        rw [b1, addN]
        refine br_le (by omega) (by omega) (fun g => nx h _ _ _ ?_ mw f) (fun g => ⟨by decide, ?_⟩)
        · unfold ofF
          rw [if_neg (by omega)]
          exact ⟨b1, b2, b3, b4, b5, b6, b7⟩
        · rw [subN (by omega), addN, div2 (by omega)]
          have la := txAnc_le2 ga
          have ly := txAnc_le2 gy
          have sl := stF_le (txAnc a) (txAnc y.2.2.1) ((b.1 - e + 1) / 2) (by omega) la.2 ly.2
          refine cp_i (e_stepsTo d ga gy (lim := (b.1 - e + 1) / 2) (by omega) mw.1 mw.2.1 mw.2.2) f.1 (fun h1 q1 e1 => ?_)
          rw [mulN, addN]
          have n229 : ∀ g, ¬ S231 229 g := fun g w => by rcases w with w | w <;> omega
          have z := q1.2 229 0 (n229 0)
          have mb1 : MnC h1 b := ⟨by rw [z.1]; exact b1, by rw [z.1]; exact b2, by rw [z.1]; exact b3, by rw [z.2.1]; exact b4, b5, b6, b7⟩
          have mw1 : MW h1 a := MW_fr q1 (fun w => by rcases w with w | w <;> omega) (by rw [z.2.1]) (by rw [z.1]) mw
          have f1 : Fr SMn σ h1 := f.tr (q1.mo fun g _ w => by
            rcases w with w | w
            · exact Or.inr (Or.inl w)
            · exact Or.inr (Or.inr w))
          refine cp_v (e_offer (d + 2) (an := some y.2.2.1) mb1 (by omega) hp gs) e1 (fun h2 q2 e2 => nx h2 _ _ _ ?_ ?_ ?_)
          · rw [← ofF_st g]
            exact q2.1
          · exact MW_fr q2.2.2.2 (fun w => by have w : 230 = 229 := w; omega) q2.2.1 q2.2.2.1 mw1
          · exact f1.tr (q2.2.2.2.mo fun g _ w => Or.inl w)
      refine wp_ok (cut := [14, 83]) ma_17 rfl 36 _ _ _ _ ?_
      show (p < 12 ∧ (((hI h 32 p 2) ≤ (nI c.length) → (Q none h ∧ h.1 = σ.1)) ∧ (¬ (hI h 32 p 2) ≤ (nI c.length) → (p < 12 ∧ (p < 12 ∧ (vp_in (nI c.length) 100 ∧ (p < 12 ∧ (p < 12 ∧ (vp_in (nI c.length) 100 ∧ (((hI h 36 p ((nI c.length).toNatClampNeg)) = (-6) → Sat true (d + 3) 17 σ.1 Q 83 [some (vr 229 0), some (vi (nI p)), some (vi (nI e)), some (vi (dgI dg)), some (vr 32 p), some (vi (nI c.length)), some (vl (hL h 35 p ((nI c.length).toNatClampNeg))), none, some (vi (hI h 36 p ((nI c.length).toNatClampNeg))), none] [] h) ∧ (¬ (hI h 36 p ((nI c.length).toNatClampNeg)) = (-6) → (vp_in (nI p) 12 ∧ ((nI p).toNatClampNeg < 12 ∧ ((nI p).toNatClampNeg < 12 ∧ (vp_in (hI h 36 p ((nI c.length).toNatClampNeg)) 53 ∧ ((¬ (hI h 31 ((nI p).toNatClampNeg) ((hI h 36 p ((nI c.length).toNatClampNeg)).toNatClampNeg)) = (dgI dg) → Sat true (d + 3) 17 σ.1 Q 83 [some (vr 229 0), some (vi (nI p)), some (vi (nI e)), some (vi (dgI dg)), some (vr 32 p), some (vi (nI c.length)), some (vl (hL h 35 p ((nI c.length).toNatClampNeg))), none, some (vi (hI h 36 p ((nI c.length).toNatClampNeg))), none] [] h) ∧ ((hI h 31 ((nI p).toNatClampNeg) ((hI h 36 p ((nI c.length).toNatClampNeg)).toNatClampNeg)) = (dgI dg) → CalV true (d + 2) 18 [vr 229 0, vi (nI 1), vi (nI p), vi (nI c.length), vl (hL h 35 p ((nI c.length).toNatClampNeg))] h σ.1 (fun s1 => Sat true (d + 3) 17 σ.1 Q 14 [some (vr 229 0), some (vi (nI p)), some (vi (nI e)), some (vi (dgI dg)), some (vr 32 p), some (vi ((nI c.length) + nI 1)), some (vl (hL h 35 p ((nI c.length).toNatClampNeg))), none, some (vi (hI h 36 p ((nI c.length).toNatClampNeg))), none] [] s1))))))))))))))))))
      simp only [hp, true_and]
      rw [e2, ix (by omega), ix (by omega), e35, e36, addN]
      have i1 : vp_in (nI c.length) 100 := inb (by omega) (by omega)
      refine br_le (by omega) (by omega) (fun g => by omega) (fun _ => ⟨i1, i1, ?_⟩)
      cases hs : y.2.2.2 with
      | none =>
        have hm : mvB (P p) y dg = false := by unfold mvB; rw [hs]
        have k := s83 hm
        rw [hs] at k
        exact ⟨fun _ => k, fun g => absurd rfl g⟩
      | some s =>
        have hsn := (hdi c.length y hy).2.2.2 s hs
        have en : (secs (P p)).length = 0 + nHd (P p) := secs_len (P p) []
        have b1 := nHd_b (hP p hp).1
        have b2 := (hP p hp).2
        have hz : (secs (P p))[s]? = some (secs (P p))[s] := List.getElem?_eq_getElem (by omega)
        have e31 : hI h 31 p s = nI (secs (P p))[s].2 := by rw [(f.2 31 p (fun w => by rcases w with w | w | w <;> omega)).1]; exact ((cs.2.1 p hp).1.2.2.2.2.2.2 s _ hz).2
        have dgs := sec_dg hP hz
        have hn6 : ¬ nI s = (-6) := fun w => by
          have := congrArg Int32.toInt w
          rw [nI_toInt (by omega)] at this
          have e2 : (-6 : Int32).toInt = -6 := by decide
          omega
        have k := s83
        rw [hs] at k
        have ms : secI (some s) = nI s := rfl
        rw [ms] at k ⊢
        rw [ix (by omega), e31]
        refine ⟨fun g => absurd g hn6, fun _ => ⟨inb hp (by omega), hp, hp, inb (by omega) (by omega), fun g => k ?_, fun g => ?_⟩⟩
        · cases hd : dg with
          | none =>
            unfold mvB
            rw [hs]
          | some gg =>
            unfold mvB
            rw [hs]
            show (match (secs (P p))[s]? with
              | some z => decide (z.2 = gg)
              | none => false) = false
            rw [hz]
            refine decide_eq_false fun w => g ?_
            rw [hd, w]
            rfl
        · have hm : mvB (P p) y dg = true := by
            cases hd : dg with
            | none =>
              rw [hd] at g
              exact absurd g (nI_m1 (by omega))
            | some gg =>
              unfold mvB
              rw [hs]
              show (match (secs (P p))[s]? with
                | some z => decide (z.2 = gg)
                | none => false) = true
              rw [hz]
              refine decide_eq_true ?_
              rw [hd] at g
              have := hdg gg hd
              exact (eqN (by omega) (by omega)).mp g
          have ep : prH (P p) a dg e y = 1 := by unfold prH; rw [if_pos hm]
          rw [ep] at nx
          refine cp_v (e_offer (d + 2) (an := some y.2.2.1) mb (by omega) hp gs) f.1 (fun h2 q2 e2 => nx h2 _ _ _ q2.1 ?_ ?_)
          · exact MW_fr q2.2.2.2 (fun w => by have w : 230 = 229 := w; omega) q2.2.1 q2.2.2.1 mw
          · exact f.tr (q2.2.2.2.mo fun g _ w => Or.inl w)
  refine wp_ok (cut := [14]) ma_17 rfl 8 _ _ _ _ ?_
  show (vp_in (nI p) 12 ∧ Sat true (d + 3) 17 σ.1 Q 14 [some (vr 229 0), some (vi (nI p)), some (vi (nI e)), some (vi (dgI dg)), some (vr 32 ((nI p).toNatClampNeg)), some (vi (nI 0)), none, none, none, none] [] σ)
  rw [ix (by omega)]
  exact ⟨inb hp (by omega), loop _ [] b σ rfl hb hw (Fr.rfl' _ _) (fun h k1 k2 k3 => hq h ⟨k1, k2, k3⟩)⟩
end
