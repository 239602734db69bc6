/-! the model: remembered, isSectionWith, offer -/
def dg6 (dg : Option Nat) : Int32 := match dg with
  | none => (-6)
  | some g => nI g
def MnM (h : Hp) (b : Bs) : Prop := (b.1 = 1000 ∧ hI h 233 0 39 = (-6)) ∨ (b.1 < 1000 ∧ hI h 233 0 39 = nI b.1 ∧ hI h 233 0 40 = nI b.2.1 ∧ hI h 233 0 41 = b.2.2.1)
def SOf (f k : Nat) : Prop := f = 233 ∧ (k = 39 ∨ k = 40 ∨ k = 41)
theorem n6 {n : Nat} (hn : n < 2147483648) : ¬ nI n = (-6) := fun w => by
  have := congrArg Int32.toInt w
  rw [nI_toInt hn] at this
  have e2 : (-6 : Int32).toInt = -6 := by decide
  omega
section
variable {σ : Hp} {P : Nat → List Line} {X : Nat → XA} {rs : List (Pl × Pl)} {es : List En}
theorem m_remembered (d : Nat) (hs : EnsM σ es) {p t : Nat} {a : Anc} (hp : p < 12) (ht : t + 12 ≤ 20448) (ga : gAnc a) (hr : RowA (hI σ 245 0) t (txAnc a)) : EI (d + 1) 189 [vr 233 0, vi (nI p), vi (nI t)] σ (dg6 (enD (p, some a) es)) σ := by
  obtain ⟨q1, q2, q3⟩ := hs
  have loop : ∀ (b c : List En), es = c ++ b → ∀ Q : Option AV → Hp → Prop, Q (some (vi (dg6 (enD (p, some a) b)))) σ → Sat true (d + 1) 189 σ.1 Q 2 [some (vr 233 0), some (vi (nI p)), some (vi (nI t)), some (vi (nI c.length)), none] [] σ := by
    intro b
    induction b with
    | nil =>
      intro c e Q hq
      rw [List.append_nil] at e
      refine wp_ok (cut := [2]) ma_189 rfl 36 _ _ _ _ ?_
      show (vp_in (nI 2829) 2830 ∧ (((hI σ 235 0 2829) ≤ (nI c.length) → (Q (some (vi (-6))) σ ∧ σ.1 = σ.1)) ∧ (¬ (hI σ 235 0 2829) ≤ (nI c.length) → (vp_in ((nI 2269) + ((nI 14) * (nI c.length))) 2830 ∧ ((¬ (hI σ 235 0 (((nI 2269) + ((nI 14) * (nI c.length))).toNatClampNeg)) = (nI p) → Sat true (d + 1) 189 σ.1 Q 2 [some (vr 233 0), some (vi (nI p)), some (vi (nI t)), some (vi ((nI c.length) + nI 1)), some (vi ((nI 2269) + ((nI 14) * (nI c.length))))] [] σ) ∧ ((hI σ 235 0 (((nI 2269) + ((nI 14) * (nI c.length))).toNatClampNeg)) = (nI p) → CalI true d 135 [vr 233 0, vr 235 0, vi (((nI 2269) + ((nI 14) * (nI c.length))) + (nI 2)), vr 245 0, vi (nI t)] σ σ.1 (fun x2 s1 => ((x2 = 0 → Sat true (d + 1) 189 σ.1 Q 2 [some (vr 233 0), some (vi (nI p)), some (vi (nI t)), some (vi ((nI c.length) + nI 1)), some (vi ((nI 2269) + ((nI 14) * (nI c.length))))] [] s1) ∧ (¬ x2 = 0 → (vp_in (((nI 2269) + ((nI 14) * (nI c.length))) + (nI 1)) 2830 ∧ (Q (some (vi (hI s1 235 0 ((((nI 2269) + ((nI 14) * (nI c.length))) + (nI 1)).toNatClampNeg)))) s1 ∧ s1.1 = σ.1)))))))))))
      rw [q1, ← e]
      exact ⟨inb (by omega) (by omega), fun _ => ⟨hq, rfl⟩, fun g => absurd (Int32.le_refl _) g⟩
    | cons y b ih =>
      intro c e Q hq
      have hlen : es.length = c.length + (b.length + 1) := by rw [e, List.length_append, List.length_cons]
      obtain ⟨y1, y2, y3, y4, y5, y6⟩ := q3 c.length y (by rw [e, List.getElem?_append_right (Nat.le_refl _), Nat.sub_self]; rfl)
      have sa := m_sameA235_245 (σ := σ) d (i := 2269 + 14 * c.length + 2) (j := t) (by omega) ht (txAnc_le2 y5).2 (txAnc_le2 ga).2 (txAnc_lt y5) (txAnc_lt ga) y3 hr
      unfold enD at hq
      have nx : ¬ ((y.1, some y.2.1) = (p, some a)) → ∀ x4 : Int32, Sat true (d + 1) 189 σ.1 Q 2 [some (vr 233 0), some (vi (nI p)), some (vi (nI t)), some (vi (nI (c.length + 1))), some (vi x4)] [] σ := by
        intro g x4
        rw [if_neg g] at hq
        have := ih (c ++ [y]) (by rw [e, List.append_assoc]; rfl) Q hq
        rw [List.length_append] at this
        exact Sat_no 4 this
      refine wp_ok (cut := [2]) ma_189 rfl 36 _ _ _ _ ?_
      show (vp_in (nI 2829) 2830 ∧ (((hI σ 235 0 2829) ≤ (nI c.length) → (Q (some (vi (-6))) σ ∧ σ.1 = σ.1)) ∧ (¬ (hI σ 235 0 2829) ≤ (nI c.length) → (vp_in ((nI 2269) + ((nI 14) * (nI c.length))) 2830 ∧ ((¬ (hI σ 235 0 (((nI 2269) + ((nI 14) * (nI c.length))).toNatClampNeg)) = (nI p) → Sat true (d + 1) 189 σ.1 Q 2 [some (vr 233 0), some (vi (nI p)), some (vi (nI t)), some (vi ((nI c.length) + nI 1)), some (vi ((nI 2269) + ((nI 14) * (nI c.length))))] [] σ) ∧ ((hI σ 235 0 (((nI 2269) + ((nI 14) * (nI c.length))).toNatClampNeg)) = (nI p) → CalI true d 135 [vr 233 0, vr 235 0, vi (((nI 2269) + ((nI 14) * (nI c.length))) + (nI 2)), vr 245 0, vi (nI t)] σ σ.1 (fun x2 s1 => ((x2 = 0 → Sat true (d + 1) 189 σ.1 Q 2 [some (vr 233 0), some (vi (nI p)), some (vi (nI t)), some (vi ((nI c.length) + nI 1)), some (vi ((nI 2269) + ((nI 14) * (nI c.length))))] [] s1) ∧ (¬ x2 = 0 → (vp_in (((nI 2269) + ((nI 14) * (nI c.length))) + (nI 1)) 2830 ∧ (Q (some (vi (hI s1 235 0 ((((nI 2269) + ((nI 14) * (nI c.length))) + (nI 1)).toNatClampNeg)))) s1 ∧ s1.1 = σ.1)))))))))))
      rw [q1, mulN, addN, addN, addN, addN, ix (by omega), ix (by omega), y1]
      refine ⟨inb (by omega) (by omega), br_le (by omega) (by omega) (fun g => by omega) (fun _ => ⟨inb (by omega) (by omega), br_ne (by omega) (by omega) (fun g => nx (fun w => g (congrArg Prod.fst w)) _) (fun g => cal_i sa rfl (brI (fun g2 => nx (fun w => of_decide_eq_false g2 (by rw [Option.some.inj (congrArg Prod.snd w)])) _) (fun g2 => ⟨inb (by omega) (by omega), ?_, rfl⟩)))⟩)⟩
      rw [y2]
      rw [if_pos (Prod.ext g (congrArg some ((txAnc_inj y5 ga).mp (of_decide_eq_true g2))))] at hq
      exact hq
  refine EI_of mt_189 (Nat.le_of_ble_eq_true rfl) fun Q hq => ?_
  refine wp_ok (cut := [2]) ma_189 rfl 2 _ _ _ _ ?_
  show Sat true (d + 1) 189 σ.1 Q 2 [some (vr 233 0), some (vi (nI p)), some (vi (nI t)), some (vi (nI 0)), none] [] σ
  exact loop es [] rfl Q hq
theorem m_isSectionWith (d : Nat) (hP : gP P) (hX : ∀ p, p < 12 → XFin P p (X p) ∧ (X p).2.2.1.length ≤ 100) (ld : LdX σ P X) {p j g : Nat} {y : Hd} (hp : p < 12) (hy : (X p).2.2.1[j]? = some y) (hg : g < 1000003) : EI d 190 [vr 233 0, vi (nI p), vi (nI j), vi (nI g)] σ (bI (mvB (P p) y (some g))) σ := by
  refine EI_of mt_190 (Nat.le_of_ble_eq_true rfl) fun Q hq => ?_
  obtain ⟨l1, l2, l3, l4, _⟩ := (ld.2 p hp).1
  have b54 := (bds hP hp).1
  have hdi := (XFin_hd hP hp (hX p hp).1).2.2
  have hj := All_lt hy
  have h100 := (hX p hp).2
  -- which section the heading begins
  have key : ∀ s, hoF (fun _ => (-6)) 0 (X p).2.2.1 s = nI j ↔ y.2.2.2 = some s := by
    intro s
    constructor
    · intro h
      by_cases c : ∀ z ∈ (X p).2.2.1, z.2.2.2 ≠ some s
      · rw [hoF_no c] at h
        exact absurd h.symm (n6 (by omega))
      · have c : ∃ z, z ∈ (X p).2.2.1 ∧ z.2.2.2 = some s := by
          refine Classical.byContradiction fun w => c fun z hz e => w ⟨z, hz, e⟩
        obtain ⟨z, hz, e⟩ := c
        obtain ⟨i, hi, ez⟩ := List.getElem_of_mem hz
        have hz2 : (X p).2.2.1[i]? = some z := by rw [← ez]; exact List.getElem?_eq_getElem hi
        rw [hoF_is hdi hz2 e] at h
        have : i = j := (eqN (by omega) (by omega)).mp h
        rw [this, hy] at hz2
        cases hz2
        exact e
    · intro h
      exact hoF_is hdi hy h _
  have mv : mvB (P p) y (some g) = true ↔ ∃ s z, (secs (P p))[s]? = some z ∧ y.2.2.2 = some s ∧ z.2 = g := by
    unfold mvB
    cases hs : y.2.2.2 with
    | none => exact ⟨fun h => (by cases h), fun ⟨s, z, _, w, _⟩ => by cases w⟩
    | some s =>
      show (match (secs (P p))[s]? with
        | some z => decide (z.2 = g)
        | none => false) = true ↔ _
      cases hz : (secs (P p))[s]? with
      | none => exact ⟨fun h => (by cases h), fun ⟨s2, z, w1, w2, _⟩ => by cases w2; rw [hz] at w1; cases w1⟩
      | some z => exact ⟨fun h => ⟨s, z, hz, rfl, of_decide_eq_true h⟩, fun ⟨s2, z2, w1, w2, w3⟩ => by cases w2; rw [hz] at w1; cases w1; exact decide_eq_true w3⟩
  have loop : ∀ (n s : Nat) (b : Bool), s + n = (secs (P p)).length → (b = true ↔ ∃ s' z, s' < s ∧ (secs (P p))[s']? = some z ∧ y.2.2.2 = some s' ∧ z.2 = g) → Sat true d 190 σ.1 Q 6 [some (vr 233 0), some (vi (nI p)), some (vi (nI j)), some (vi (nI g)), some (vi (bI b)), some (vi (nI s))] [] σ := by
    intro n
    induction n with
    | zero =>
      intro s b hs hb
      have hs : s = (secs (P p)).length := hs
      subst hs
      have e : b = mvB (P p) y (some g) := by
        rw [Bool.eq_iff_iff, hb, mv]
        exact ⟨fun ⟨s, z, _, w⟩ => ⟨s, z, w⟩, fun ⟨s, z, w⟩ => ⟨s, z, All_lt w.1, w⟩⟩
      rw [← e] at hq
      refine wp_ok (cut := [6]) ma_190 rfl 33 _ _ _ _ ?_
      show (vp_in (nI p) 12 ∧ (((hI σ 247 0 ((nI p).toNatClampNeg)) ≤ (nI (secs (P p)).length) → (((bI b) = 0 ∨ (bI b) = 1) ∧ (Q (some (vi (bI b))) σ ∧ σ.1 = σ.1))) ∧ (¬ (hI σ 247 0 ((nI p).toNatClampNeg)) ≤ (nI (secs (P p)).length) → ((¬ (bI b) = 0 → Sat true d 190 σ.1 Q 6 [some (vr 233 0), some (vi (nI p)), some (vi (nI j)), some (vi (nI g)), some (vi (nI 1)), some (vi ((nI (secs (P p)).length) + nI 1))] [] σ) ∧ ((bI b) = 0 → (vp_in (((nI 54) * (nI p)) + (nI (secs (P p)).length)) 648 ∧ ((¬ (hI σ 249 0 ((((nI 54) * (nI p)) + (nI (secs (P p)).length)).toNatClampNeg)) = (nI j) → Sat true d 190 σ.1 Q 6 [some (vr 233 0), some (vi (nI p)), some (vi (nI j)), some (vi (nI g)), some (vi (nI 0)), some (vi ((nI (secs (P p)).length) + nI 1))] [] σ) ∧ ((hI σ 249 0 ((((nI 54) * (nI p)) + (nI (secs (P p)).length)).toNatClampNeg)) = (nI j) → (vp_in (((nI 54) * (nI p)) + (nI (secs (P p)).length)) 648 ∧ ((¬ (hI σ 248 0 ((((nI 54) * (nI p)) + (nI (secs (P p)).length)).toNatClampNeg)) = (nI g) → Sat true d 190 σ.1 Q 6 [some (vr 233 0), some (vi (nI p)), some (vi (nI j)), some (vi (nI g)), some (vi (nI 0)), some (vi ((nI (secs (P p)).length) + nI 1))] [] σ) ∧ ((hI σ 248 0 ((((nI 54) * (nI p)) + (nI (secs (P p)).length)).toNatClampNeg)) = (nI g) → Sat true d 190 σ.1 Q 6 [some (vr 233 0), some (vi (nI p)), some (vi (nI j)), some (vi (nI g)), some (vi (nI 1)), some (vi ((nI (secs (P p)).length) + nI 1))] [] σ)))))))))))
      rw [ix (by omega), l3]
      exact ⟨inb hp (by omega), fun _ => ⟨bI_01 b, hq, rfl⟩, fun g => absurd (Int32.le_refl _) g⟩
    | succ n ih =>
      intro s b hs hb
      have hz : (secs (P p))[s]? = some (secs (P p))[s] := List.getElem?_eq_getElem (by omega)
      obtain ⟨sx1, sx2, sx3⟩ := l4 s _ hz
      have dgs := sec_dg hP hz
      have i1 : vp_in (nI (54 * p + s)) 648 := inb (by omega) (by omega)
      have no : b = false → ¬ (y.2.2.2 = some s ∧ (secs (P p))[s].2 = g) → Sat true d 190 σ.1 Q 6 [some (vr 233 0), some (vi (nI p)), some (vi (nI j)), some (vi (nI g)), some (vi (nI 0)), some (vi (nI (s + 1)))] [] σ := by
        intro hbf hc
        refine ih (s + 1) false (by omega) ⟨fun w => (by cases w), fun ⟨s', z, w1, w2, w3, w4⟩ => ?_⟩
        by_cases c : s' = s
        · subst c
          rw [hz] at w2
          cases w2
          exact absurd ⟨w3, w4⟩ hc
        · have := hb.mpr ⟨s', z, by omega, w2, w3, w4⟩
          rw [hbf] at this
          cases this
      refine wp_ok (cut := [6]) ma_190 rfl 33 _ _ _ _ ?_
      show (vp_in (nI p) 12 ∧ (((hI σ 247 0 ((nI p).toNatClampNeg)) ≤ (nI s) → (((bI b) = 0 ∨ (bI b) = 1) ∧ (Q (some (vi (bI b))) σ ∧ σ.1 = σ.1))) ∧ (¬ (hI σ 247 0 ((nI p).toNatClampNeg)) ≤ (nI s) → ((¬ (bI b) = 0 → Sat true d 190 σ.1 Q 6 [some (vr 233 0), some (vi (nI p)), some (vi (nI j)), some (vi (nI g)), some (vi (nI 1)), some (vi ((nI s) + nI 1))] [] σ) ∧ ((bI b) = 0 → (vp_in (((nI 54) * (nI p)) + (nI s)) 648 ∧ ((¬ (hI σ 249 0 ((((nI 54) * (nI p)) + (nI s)).toNatClampNeg)) = (nI j) → Sat true d 190 σ.1 Q 6 [some (vr 233 0), some (vi (nI p)), some (vi (nI j)), some (vi (nI g)), some (vi (nI 0)), some (vi ((nI s) + nI 1))] [] σ) ∧ ((hI σ 249 0 ((((nI 54) * (nI p)) + (nI s)).toNatClampNeg)) = (nI j) → (vp_in (((nI 54) * (nI p)) + (nI s)) 648 ∧ ((¬ (hI σ 248 0 ((((nI 54) * (nI p)) + (nI s)).toNatClampNeg)) = (nI g) → Sat true d 190 σ.1 Q 6 [some (vr 233 0), some (vi (nI p)), some (vi (nI j)), some (vi (nI g)), some (vi (nI 0)), some (vi ((nI s) + nI 1))] [] σ) ∧ ((hI σ 248 0 ((((nI 54) * (nI p)) + (nI s)).toNatClampNeg)) = (nI g) → Sat true d 190 σ.1 Q 6 [some (vr 233 0), some (vi (nI p)), some (vi (nI j)), some (vi (nI g)), some (vi (nI 1)), some (vi ((nI s) + nI 1))] [] σ)))))))))))
      rw [ix (by omega), l3, mulN, addN, addN, ix (by omega), sx3, sx2]
      refine ⟨inb hp (by omega), br_le (by omega) (by omega) (fun g => by omega) (fun _ => brN (fun g2 => ?_) (fun g2 => ⟨i1, fun w => no g2 (fun c => w ((key s).mpr c.1)), fun w => ⟨i1, br_ne (by omega) (by omega) (fun w2 => no g2 (fun c => w2 c.2)) (fun w2 => ?_)⟩⟩))⟩
      · obtain ⟨s', z, w1, w2⟩ := hb.mp g2
        exact ih (s + 1) true (by omega) ⟨fun _ => ⟨s', z, by omega, w2⟩, fun _ => rfl⟩
      · exact ih (s + 1) true (by omega) ⟨fun _ => ⟨s, _, by omega, hz, (key s).mp w, w2⟩, fun _ => rfl⟩
  refine wp_ok (cut := [6]) ma_190 rfl 4 _ _ _ _ ?_
  show Sat true d 190 σ.1 Q 6 [some (vr 233 0), some (vi (nI p)), some (vi (nI j)), some (vi (nI g)), some (vi (nI 0)), some (vi (nI 0))] [] σ
  exact loop (secs (P p)).length 0 false (by omega) ⟨fun w => (by cases w), fun ⟨s', z, w, _⟩ => absurd w (Nat.not_lt_zero _)⟩
theorem m_offer (d : Nat) {b : Bs} {c pg : Nat} {hd : Int32} (an : Option Anc) (hb : MnM σ b) (hc : c < 1000) : PV d 191 [vr 233 0, vi (nI c), vi (nI pg), vi hd] σ (fun h => MnM h (ofF b c pg hd an) ∧ FrM SOf σ h) := by
  refine PV_of mt_191 (Nat.le_of_ble_eq_true rfl) fun Q hq => ?_
  unfold ofF at hq
  have put : (if c < b.1 then (c, pg, hd, an) else b) = (c, pg, hd, an) → Q none (setI (setI (setI σ 233 0 39 (nI c)) 233 0 40 (nI pg)) 233 0 41 hd) := by
    intro e
    rw [e] at hq
    refine hq _ ⟨Or.inr ⟨hc, ?_, ?_, ?_⟩, ?_⟩
    · simp (disch := omega) only [hI_s, hI_k, hI_f, hI_sL, hL_sI, hL_s, hL_k, hL_f]
    · simp (disch := omega) only [hI_s, hI_k, hI_f, hI_sL, hL_sI, hL_s, hL_k, hL_f]
    · simp (disch := omega) only [hI_s, hI_k, hI_f, hI_sL, hL_sI, hL_s, hL_k, hL_f]
    · exact (((FrM.rfl' SOf σ).sI (f := 233) ⟨rfl, Or.inl rfl⟩ _).sI (f := 233) ⟨rfl, Or.inr (Or.inl rfl)⟩ _).sI (f := 233) ⟨rfl, Or.inr (Or.inr rfl)⟩ _
  refine wp_ok (cut := []) ma_191 rfl 18 _ _ _ _ ?_
  show (((hI σ 233 0 39) = (-6) → (Q none (setI (setI (setI σ 233 0 39 (nI c)) 233 0 40 (nI pg)) 233 0 41 hd) ∧ σ.1 = σ.1)) ∧ (¬ (hI σ 233 0 39) = (-6) → (((hI σ 233 0 39) ≤ (nI c) → (Q none σ ∧ σ.1 = σ.1)) ∧ (¬ (hI σ 233 0 39) ≤ (nI c) → (Q none (setI (setI (setI σ 233 0 39 (nI c)) 233 0 40 (nI pg)) 233 0 41 hd) ∧ σ.1 = σ.1)))))
  rcases hb with ⟨b1, b2⟩ | ⟨b1, b2, b3⟩
  · rw [b2]
    exact ⟨fun _ => ⟨put (if_pos (by omega)), rfl⟩, fun g => absurd rfl g⟩
  · rw [b2]
    refine ⟨fun g => absurd g (n6 (by omega)), fun _ => br_le (by omega) (by omega) (fun g => ?_) (fun g => ⟨put (if_pos g), rfl⟩)⟩
    rw [if_neg (by omega)] at hq
    exact ⟨hq σ ⟨Or.inr ⟨b1, b2, b3⟩, FrM.rfl' _ _⟩, rfl⟩
end
