/-! the way of a link, over trees; the class's Route -/
def rdO (x : Pl) : List (Pl × Pl) → Nat → Option (Nat × Pl)
  | [], _ => none
  | y :: r, i => if y.1 = x then some (i, y.2) else rdO x r (i + 1)
def rdV (o : Option (Nat × Pl)) : Int32 := match o with
  | none => (-6)
  | some r => nI r.1
theorem rdF_o (x : Pl) : ∀ (rs : List (Pl × Pl)) (i : Nat), rdF x rs i = rdV (rdO x rs i) := by
  intro rs
  induction rs with
  | nil => intro i; rfl
  | cons y r ih =>
    intro i
    unfold rdF rdO
    by_cases e : y.1 = x
    · rw [if_pos e, if_pos e]
      rfl
    · rw [if_neg e, if_neg e]
      exact ih (i + 1)
theorem rdO_at (x : Pl) : ∀ (rs : List (Pl × Pl)) (i k : Nat) (y : Pl), rdO x rs i = some (k, y) → i ≤ k ∧ rs[k - i]? = some (x, y) := by
  intro rs
  induction rs with
  | nil => intro i k y h; cases h
  | cons z r ih =>
    intro i k y h
    unfold rdO at h
    by_cases e : z.1 = x
    · rw [if_pos e] at h
      cases h
      refine ⟨Nat.le_refl _, ?_⟩
      rw [Nat.sub_self, ← e]
      rfl
    · rw [if_neg e] at h
      obtain ⟨h1, h2⟩ := ih (i + 1) k y h
      refine ⟨by omega, ?_⟩
      rw [show k - i = (k - (i + 1)) + 1 by omega]
      exact h2
theorem rdO_0 {x : Pl} {rs : List (Pl × Pl)} {k : Nat} {y : Pl} (h : rdO x rs 0 = some (k, y)) : rs[k]? = some (x, y) := (rdO_at x rs 0 k y h).2
def rtNext (P : Nat → List Line) (rs : List (Pl × Pl)) (x : Pl) : Option (Nat × Pl) := match rdO x rs 0 with
  | some r => some r
  | none => if P x.1 = [] then (match rdO (x.1, none) rs 0 with
    | none => none
    | some r => some (r.1, (r.2.1, if r.2.2 = none then x.2 else r.2.2))) else none
def rtHd (X : Nat → XA) (x : Pl) : Int32 := match x.2 with
  | none => (-6)
  | some a => hdW a (X x.1).2.2.1 0
def rtGood (P : Nat → List Line) (X : Nat → XA) (x : Pl) : Bool := decide (P x.1 ≠ []) && (match x.2 with
  | none => true
  | some a => decide (hdW a (X x.1).2.2.1 0 ≠ (-6)))
abbrev Rs : Type := Nat × Pl × Int32 × List Nat
def rtGo (P : Nat → List Line) (X : Nat → XA) (rs : List (Pl × Pl)) : Nat → List Pl → List Nat → Pl → Rs
  | 0, _, us, x => (2, x, (-6), us)
  | f + 1, seen, us, x => if x ∈ seen then (2, x, (-6), us) else if rtGood P X x = true then (if seen = [] then 0 else 1, x, rtHd X x, us) else match rtNext P rs x with
    | none => (if P x.1 = [] then 3 else 4, x, (-6), us)
    | some r => rtGo P X rs f (seen ++ [x]) (us ++ [r.1]) r.2
def rtRun (P : Nat → List Line) (X : Nat → XA) (rs : List (Pl × Pl)) (x : Pl) : Rs := rtGo P X rs 169 [] [] x
theorem rtNext_g {P : Nat → List Line} {rs : List (Pl × Pl)} (hr : ∀ (k : Nat) (y : Pl × Pl), rs[k]? = some y → gPl y.1 ∧ gPl y.2) {x : Pl} (hx : gPl x) {k : Nat} {y : Pl} (h : rtNext P rs x = some (k, y)) : k < rs.length ∧ gPl y := by
  unfold rtNext at h
  cases e : rdO x rs 0 with
  | some r =>
    rw [e] at h
    obtain ⟨a, b⟩ := r
    cases h
    have := rdO_0 e
    exact ⟨All_lt this, (hr _ _ this).2⟩
  | none =>
    rw [e] at h
    by_cases c : P x.1 = []
    · have h : (match rdO (x.1, none) rs 0 with
        | none => none
        | some r => some (r.1, (r.2.1, if r.2.2 = none then x.2 else r.2.2))) = some (k, y) := by
        have h2 : (if P x.1 = [] then (match rdO (x.1, none) rs 0 with
          | none => none
          | some r => some (r.1, (r.2.1, if r.2.2 = none then x.2 else r.2.2))) else none) = some (k, y) := h
        rw [if_pos c] at h2
        exact h2
      cases e2 : rdO (x.1, none) rs 0 with
      | none => rw [e2] at h; cases h
      | some r =>
        rw [e2] at h
        obtain ⟨a, b⟩ := r
        cases h
        have := rdO_0 e2
        refine ⟨All_lt this, (hr _ _ this).2.1, ?_⟩
        show gAO (if b.2 = none then x.2 else b.2)
        by_cases c2 : b.2 = none
        · rw [if_pos c2]; exact hx.2
        · rw [if_neg c2]; exact (hr _ _ this).2.2
    · have h2 : (if P x.1 = [] then (match rdO (x.1, none) rs 0 with
          | none => none
          | some r => some (r.1, (r.2.1, if r.2.2 = none then x.2 else r.2.2))) else none) = some (k, y) := h
      rw [if_neg c] at h2
      cases h2
theorem setL_self (σ : Hp) (f p k : Nat) : setL σ f p k (hL σ f p k) = σ := by
  unfold setL
  refine Prod.ext rfl (Prod.ext rfl (Prod.ext ?_ rfl))
  funext f' p' k'
  show (if f' = f ∧ p' = p ∧ k' = k then σ.2.2.1 f p k else σ.2.2.1 f' p' k') = σ.2.2.1 f' p' k'
  split
  · rename_i h; rw [h.1, h.2.1, h.2.2]
  · rfl
def RF (f _ : Nat) : Prop := 225 ≤ f ∧ f ≤ 228
def SeenC (h : Hp) (j : Nat) (y : Pl) : Prop := hI h 226 0 j = nI y.1 ∧ hL h 227 0 j = lN (anO y.2) ∧ gPl y
section
variable {σ : Hp} {P : Nat → List Line} {X : Nat → XA} {rs : List (Pl × Pl)}
theorem e_wasHere (d : Nat) {seen : List Pl} {x : Pl} (h2 : hI σ 225 0 2 = nI x.1) (h3 : hL σ 225 0 3 = lN (anO x.2)) (h5 : hI σ 225 0 5 = nI seen.length) (hl : seen.length ≤ 169) (ha : All seen (SeenC σ)) (hx : gPl x) : EI d 45 [vr 225 0] σ (bI (decide (x ∈ seen))) σ := by
  refine EI_of mt_45 (Nat.le_of_ble_eq_true rfl) fun Q hq => ?_
  have loop : ∀ (b a : List Pl), seen = a ++ b → x ∉ a → Sat true d 45 σ.1 Q 2 [some (vr 225 0), some (vi (nI a.length))] [] σ := by
    intro b
    induction b with
    | nil =>
      intro a e hn
      rw [List.append_nil] at e
      rw [e, decide_eq_false hn] at hq
      refine wp_ok (cut := [2]) ma_45 rfl 21 _ _ _ _ ?_
      show (((hI σ 225 0 5) ≤ (nI a.length) → (((nI 0) = 0 ∨ (nI 0) = 1) ∧ (Q (some (vi (nI 0))) σ ∧ σ.1 = σ.1))) ∧ (¬ (hI σ 225 0 5) ≤ (nI a.length) → (vp_in (nI a.length) 169 ∧ ((¬ (hI σ 226 0 ((nI a.length).toNatClampNeg)) = (hI σ 225 0 2) → Sat true d 45 σ.1 Q 2 [some (vr 225 0), some (vi ((nI a.length) + nI 1))] [] σ) ∧ ((hI σ 226 0 ((nI a.length).toNatClampNeg)) = (hI σ 225 0 2) → (vp_in (nI a.length) 169 ∧ ((¬ (lg_cmp (hL σ 227 0 ((nI a.length).toNatClampNeg)) (hL σ 225 0 3)) = 0 → Sat true d 45 σ.1 Q 2 [some (vr 225 0), some (vi ((nI a.length) + nI 1))] [] σ) ∧ ((lg_cmp (hL σ 227 0 ((nI a.length).toNatClampNeg)) (hL σ 225 0 3)) = 0 → (((nI 1) = 0 ∨ (nI 1) = 1) ∧ (Q (some (vi (nI 1))) σ ∧ σ.1 = σ.1))))))))))
      rw [h5, e]
      exact ⟨fun _ => ⟨Or.inl rfl, hq, rfl⟩, fun g => absurd (Int32.le_refl _) g⟩
    | cons y b ih =>
      intro a e hn
      have hlen : seen.length = a.length + (b.length + 1) := by rw [e, List.length_append, List.length_cons]
      have hy : SeenC σ a.length y := All_mid (by rw [← e]; exact ha)
      have x1 := hx.1
      have y1 := hy.2.2.1
      have kq : y ≠ x → Sat true d 45 σ.1 Q 2 [some (vr 225 0), some (vi (nI (a.length + 1)))] [] σ := by
        intro g
        have := ih (a ++ [y]) (by rw [e, List.append_assoc]; rfl) (fun q => by
          rcases List.mem_append.mp q with q | q
          · exact hn q
          · cases q with
            | head => exact g rfl
            | tail _ w => cases w)
        rw [List.length_append] at this
        exact this
      refine wp_ok (cut := [2]) ma_45 rfl 21 _ _ _ _ ?_
      show (((hI σ 225 0 5) ≤ (nI a.length) → (((nI 0) = 0 ∨ (nI 0) = 1) ∧ (Q (some (vi (nI 0))) σ ∧ σ.1 = σ.1))) ∧ (¬ (hI σ 225 0 5) ≤ (nI a.length) → (vp_in (nI a.length) 169 ∧ ((¬ (hI σ 226 0 ((nI a.length).toNatClampNeg)) = (hI σ 225 0 2) → Sat true d 45 σ.1 Q 2 [some (vr 225 0), some (vi ((nI a.length) + nI 1))] [] σ) ∧ ((hI σ 226 0 ((nI a.length).toNatClampNeg)) = (hI σ 225 0 2) → (vp_in (nI a.length) 169 ∧ ((¬ (lg_cmp (hL σ 227 0 ((nI a.length).toNatClampNeg)) (hL σ 225 0 3)) = 0 → Sat true d 45 σ.1 Q 2 [some (vr 225 0), some (vi ((nI a.length) + nI 1))] [] σ) ∧ ((lg_cmp (hL σ 227 0 ((nI a.length).toNatClampNeg)) (hL σ 225 0 3)) = 0 → (((nI 1) = 0 ∨ (nI 1) = 1) ∧ (Q (some (vi (nI 1))) σ ∧ σ.1 = σ.1))))))))))
      have i1 : vp_in (nI a.length) 169 := inb (by omega) (by omega)
      rw [h5, ix (by omega), hy.1, h2, hy.2.1, h3, lg_cmp_eq, lO_inj hy.2.2.2 hx.2, addN]
      refine br_le (by omega) (by omega) (fun g => by omega) (fun _ => ⟨i1, br_ne (by omega) (by omega) (fun g => kq fun q => g (by rw [q])) (fun g => ⟨i1, fun g2 => kq fun q => g2 (by rw [q]), fun g2 => ⟨Or.inr rfl, ?_, rfl⟩⟩)⟩)
      rw [decide_eq_true (show x ∈ seen by rw [e, ← (show y = x from Prod.ext g g2)]; exact List.mem_append.mpr (Or.inr List.mem_cons_self))] at hq
      exact hq
  refine wp_ok (cut := [2]) ma_45 rfl 2 _ _ _ _ ?_
  show Sat true d 45 σ.1 Q 2 [some (vr 225 0), some (vi (nI 0))] [] σ
  exact loop seen [] rfl (fun q => by cases q)
theorem e_isGoodR (d : Nat) {x : Pl} (h2 : hI σ 225 0 2 = nI x.1) (h3 : hL σ 225 0 3 = lN (anO x.2)) (h4 : hI σ 225 0 4 = (-6)) (hx : gPl x) (hs : SrcC σ 0 x.1 (P x.1)) (hh : HsC σ x.1 (X x.1).2.2.1) : EI (d + 1) 46 [vr 225 0] σ (bI (rtGood P X x)) (setI σ 225 0 4 (if P x.1 = [] then (-6) else rtHd X x)) := by
  refine EI_of mt_46 (Nat.le_of_ble_eq_true rfl) fun Q hq => ?_
  have x1 := hx.1
  have sf : setI σ 225 0 4 (-6) = σ := by
    have := setI_self σ 225 0 4
    rw [h4] at this
    exact this
  refine wp_ok (cut := []) ma_46 rfl 30 _ _ _ _ ?_
  show CalI true d 60 [vr 8 0, vi (hI σ 225 0 2)] σ σ.1 (fun x2 s1 => ((¬ x2 = 0 → ((¬ (lg_cmp (hL s1 225 0 3) (lN 0)) = 0 → (vp_in (hI s1 225 0 2) 12 ∧ ((hI s1 225 0 2).toNatClampNeg < 12 ∧ CalI true d 13 [vr 32 ((hI s1 225 0 2).toNatClampNeg), vl (hL s1 225 0 3)] s1 σ.1 (fun x4 s3 => ((x4 = (-6) → (((nI 0) = 0 ∨ (nI 0) = 1) ∧ (Q (some (vi (nI 0))) (setI s3 225 0 4 x4) ∧ s3.1 = σ.1))) ∧ (¬ x4 = (-6) → (((nI 1) = 0 ∨ (nI 1) = 1) ∧ (Q (some (vi (nI 1))) (setI s3 225 0 4 x4) ∧ s3.1 = σ.1)))))))) ∧ ((lg_cmp (hL s1 225 0 3) (lN 0)) = 0 → (((nI 1) = 0 ∨ (nI 1) = 1) ∧ (Q (some (vi (nI 1))) s1 ∧ s1.1 = σ.1))))) ∧ (x2 = 0 → (((nI 0) = 0 ∨ (nI 0) = 1) ∧ (Q (some (vi (nI 0))) s1 ∧ s1.1 = σ.1)))))
  rw [h2]
  refine cal_i (e_hasSource d hx.1 hs) rfl (brN (fun g => ?_) (fun g => ?_))
  · have hne : P x.1 ≠ [] := of_decide_eq_true g
    rw [h3, h2, lg_cmp_eq, ix (by omega)]
    refine ⟨fun g2 => ⟨inb x1 (by omega), x1, ?_⟩, fun g2 => ?_⟩
    · obtain ⟨pg, an⟩ := x
      cases an with
      | none => exact absurd rfl g2
      | some a =>
        have e1 : rtGood P X (pg, some a) = decide (hdW a (X pg).2.2.1 0 ≠ (-6)) := by
          show (decide (P pg ≠ []) && _) = _
          rw [decide_eq_true hne, Bool.true_and]
        rw [e1, if_neg hne] at hq
        refine cal_i (e_headingWith d hx.1 hh (hx.2 a rfl)) rfl ⟨fun w => ?_, fun w => ?_⟩
        · rw [decide_eq_false (fun q => q w)] at hq
          exact ⟨Or.inl rfl, hq, rfl⟩
        · rw [decide_eq_true w] at hq
          exact ⟨Or.inr rfl, hq, rfl⟩
    · have e : x.2 = none := (lO_0 hx.2).mp g2
      obtain ⟨pg, an⟩ := x
      cases e
      have e1 : rtGood P X (pg, none) = true := by
        show (decide (P pg ≠ []) && true) = true
        rw [decide_eq_true hne]
        rfl
      rw [e1, if_neg hne] at hq
      have hq : Q (some (vi (bI true))) (setI σ 225 0 4 (-6)) := hq
      rw [sf] at hq
      exact ⟨Or.inr rfl, hq, rfl⟩
  · have he : P x.1 = [] := by
      by_cases w : P x.1 = []
      · exact w
      · exact absurd w (of_decide_eq_false g)
    have e1 : rtGood P X x = false := by
      unfold rtGood
      rw [decide_eq_false (fun w => w he), Bool.false_and]
    rw [e1, if_pos he, sf] at hq
    exact ⟨Or.inl rfl, hq, rfl⟩
theorem e_goOn (d : Nat) {x : Pl} {k : Nat} (hk : k < 169) (h2 : hI σ 225 0 2 = nI x.1) (h3 : hL σ 225 0 3 = lN (anO x.2)) (h5 : hI σ 225 0 5 = nI k) (hx : gPl x) (hs : SrcC σ 0 x.1 (P x.1)) (hr : RdsC σ 0 rs) : EI (d + 1) 47 [vr 225 0] σ (bI (rtNext P rs x).isSome) (match rtNext P rs x with
    | none => σ
    | some r => setL (setI (setI σ 228 0 k (nI r.1)) 225 0 2 (nI r.2.1)) 225 0 3 (lN (anO r.2.2))) := by
  refine EI_of mt_47 (Nat.le_of_ble_eq_true rfl) fun Q hq => ?_
  have x1 := hx.1
  -- behind the choice of a redirect
  have tail : ∀ (r : Nat × Pl) (z : Pl), rs[r.1]? = some (z, r.2) → ∀ b : Bool, Q (some (vi (nI 1))) (setL (setI (setI σ 228 0 k (nI r.1)) 225 0 2 (nI r.2.1)) 225 0 3 (lN (anO (if b = true ∧ r.2.2 = none then x.2 else r.2.2)))) → Sat true (d + 1) 47 σ.1 Q 58 [some (vr 225 0), some (vr 8 0), some (vi (nI r.1)), some (vi (bI b))] [] σ := by
    intro r z hz b hq
    have hy := hr.2.2 r.1 _ hz
    have hl := All_lt hz
    have h12 := hr.2.1
    have i1 : vp_in (nI r.1) 12 := inb (by omega) (by omega)
    have hn6 : ¬ nI r.1 = (-6) := fun e => by
      have := congrArg Int32.toInt e
      rw [nI_toInt (by omega)] at this
      have e2 : (-6 : Int32).toInt = -6 := by decide
      omega
    refine wp_ok (cut := []) ma_47 rfl 32 _ _ _ _ ?_
    show ((¬ (nI r.1) = (-6) → (vp_in (hI σ 225 0 5) 169 ∧ (vp_in (nI r.1) 12 ∧ (((bI b) = 0 → (vp_in (nI r.1) 12 ∧ (((nI 1) = 0 ∨ (nI 1) = 1) ∧ (Q (some (vi (nI 1))) (setL (setI (setI σ 228 0 ((hI σ 225 0 5).toNatClampNeg) (nI r.1)) 225 0 2 (hI σ 13 0 ((nI r.1).toNatClampNeg))) 225 0 3 (hL σ 14 0 ((nI r.1).toNatClampNeg))) ∧ σ.1 = σ.1)))) ∧ (¬ (bI b) = 0 → (vp_in (nI r.1) 12 ∧ (((lg_cmp (hL σ 14 0 ((nI r.1).toNatClampNeg)) (lN 0)) = 0 → (((nI 1) = 0 ∨ (nI 1) = 1) ∧ (Q (some (vi (nI 1))) (setI (setI σ 228 0 ((hI σ 225 0 5).toNatClampNeg) (nI r.1)) 225 0 2 (hI σ 13 0 ((nI r.1).toNatClampNeg))) ∧ σ.1 = σ.1))) ∧ (¬ (lg_cmp (hL σ 14 0 ((nI r.1).toNatClampNeg)) (lN 0)) = 0 → (vp_in (nI r.1) 12 ∧ (((nI 1) = 0 ∨ (nI 1) = 1) ∧ (Q (some (vi (nI 1))) (setL (setI (setI σ 228 0 ((hI σ 225 0 5).toNatClampNeg) (nI r.1)) 225 0 2 (hI σ 13 0 ((nI r.1).toNatClampNeg))) 225 0 3 (hL σ 14 0 ((nI r.1).toNatClampNeg))) ∧ σ.1 = σ.1))))))))))) ∧ ((nI r.1) = (-6) → (((nI 0) = 0 ∨ (nI 0) = 1) ∧ (Q (some (vi (nI 0))) σ ∧ σ.1 = σ.1))))
    rw [h5, ix (by omega), ix (by omega), hy.2.2.1, hy.2.2.2.1, lg_cmp_eq]
    refine ⟨fun _ => ⟨inb (by omega) (by omega), i1, brI (fun g => ⟨i1, Or.inr rfl, ?_, rfl⟩) (fun g => ⟨i1, fun g2 => ⟨Or.inr rfl, ?_, rfl⟩, fun g2 => ⟨i1, Or.inr rfl, ?_, rfl⟩⟩)⟩, fun g => absurd g hn6⟩
    · rw [if_neg (fun w => by rw [g] at w; cases w.1)] at hq
      exact hq
    · rw [if_pos ⟨g, (lO_0 hy.2.2.2.2.2.2).mp g2⟩, ← h3] at hq
      have e : setL (setI (setI σ 228 0 k (nI r.1)) 225 0 2 (nI r.2.1)) 225 0 3 (hL σ 225 0 3) = setI (setI σ 228 0 k (nI r.1)) 225 0 2 (nI r.2.1) := setL_self (setI (setI σ 228 0 k (nI r.1)) 225 0 2 (nI r.2.1)) 225 0 3
      rw [e] at hq
      exact hq
    · rw [if_neg (fun w => g2 ((lO_0 hy.2.2.2.2.2.2).mpr w.2))] at hq
      exact hq
  have c1 := e_redirectFrom d hr hx
  rw [rdF_o] at c1
  have c2 := e_redirectFrom d (x := (x.1, none)) hr ⟨hx.1, fun a h => by cases h⟩
  rw [rdF_o] at c2
  have c2 : EI d 62 [vr 8 0, vi (nI x.1), vl (lN 0)] σ (rdV (rdO (x.1, none) rs 0)) σ := c2
  refine wp_ok (cut := [58]) ma_47 rfl 30 _ _ _ _ ?_
  show CalI true d 62 [vr 8 0, vi (hI σ 225 0 2), vl (hL σ 225 0 3)] σ σ.1 (fun x2 s1 => ((¬ x2 = (-6) → (((nI 0) = 0 → Sat true (d + 1) 47 σ.1 Q 58 [some (vr 225 0), some (vr 8 0), some (vi x2), some (vi (nI 0))] [] s1) ∧ (¬ (nI 0) = 0 → CalI true d 62 [vr 8 0, vi (hI s1 225 0 2), vl (lN 0)] s1 σ.1 (fun x4 s3 => Sat true (d + 1) 47 σ.1 Q 58 [some (vr 225 0), some (vr 8 0), some (vi x4), some (vi (nI 0))] [] s3)))) ∧ (x2 = (-6) → CalI true d 60 [vr 8 0, vi (hI s1 225 0 2)] s1 σ.1 (fun x6 s5 => ((¬ x6 = 0 → (((nI 0) = 0 → Sat true (d + 1) 47 σ.1 Q 58 [some (vr 225 0), some (vr 8 0), some (vi x2), some (vi (nI 0))] [] s5) ∧ (¬ (nI 0) = 0 → CalI true d 62 [vr 8 0, vi (hI s5 225 0 2), vl (lN 0)] s5 σ.1 (fun x8 s7 => Sat true (d + 1) 47 σ.1 Q 58 [some (vr 225 0), some (vr 8 0), some (vi x8), some (vi (nI 0))] [] s7)))) ∧ (x6 = 0 → (((nI 1) = 0 → Sat true (d + 1) 47 σ.1 Q 58 [some (vr 225 0), some (vr 8 0), some (vi x2), some (vi (nI 1))] [] s5) ∧ (¬ (nI 1) = 0 → CalI true d 62 [vr 8 0, vi (hI s5 225 0 2), vl (lN 0)] s5 σ.1 (fun x10 s9 => Sat true (d + 1) 47 σ.1 Q 58 [some (vr 225 0), some (vr 8 0), some (vi x10), some (vi (nI 1))] [] s9)))))))))
  rw [h2, h3]
  refine cal_i c1 rfl ?_
  rw [h2]
  cases e : rdO x rs 0 with
  | some r =>
    have hz := rdO_0 (k := r.1) (y := r.2) e
    have hl := All_lt hz
    have h12 := hr.2.1
    have en : rtNext P rs x = some r := by unfold rtNext; rw [e]
    rw [en] at hq
    refine ⟨fun _ => ⟨fun _ => tail r x hz false ?_, fun g => absurd rfl g⟩, fun g => ?_⟩
    · rw [if_neg (fun w => by cases w.1)]
      exact hq
    · have g : nI r.1 = (-6) := g
      have := congrArg Int32.toInt g
      rw [nI_toInt (by omega)] at this
      have e2 : (-6 : Int32).toInt = -6 := by decide
      omega
  | none =>
    refine ⟨fun g => absurd rfl g, fun _ => cal_i (e_hasSource d hx.1 hs) rfl (brN (fun g => ?_) (fun g => ?_))⟩
    · have hne : P x.1 ≠ [] := of_decide_eq_true g
      have en : rtNext P rs x = none := by unfold rtNext; rw [e]; exact if_neg hne
      rw [en] at hq
      refine ⟨fun _ => ?_, fun g => absurd rfl g⟩
      show Sat true (d + 1) 47 σ.1 Q 58 [some (vr 225 0), some (vr 8 0), some (vi (-6)), some (vi (nI 0))] [] σ
      refine wp_ok (cut := []) ma_47 rfl 32 _ _ _ _ ?_
      show ((¬ (-6 : Int32) = (-6) → (vp_in (hI σ 225 0 5) 169 ∧ (vp_in (-6 : Int32) 12 ∧ (((nI 0) = 0 → (vp_in (-6 : Int32) 12 ∧ (((nI 1) = 0 ∨ (nI 1) = 1) ∧ (Q (some (vi (nI 1))) (setL (setI (setI σ 228 0 ((hI σ 225 0 5).toNatClampNeg) (-6 : Int32)) 225 0 2 (hI σ 13 0 ((-6 : Int32).toNatClampNeg))) 225 0 3 (hL σ 14 0 ((-6 : Int32).toNatClampNeg))) ∧ σ.1 = σ.1)))) ∧ (¬ (nI 0) = 0 → (vp_in (-6 : Int32) 12 ∧ (((lg_cmp (hL σ 14 0 ((-6 : Int32).toNatClampNeg)) (lN 0)) = 0 → (((nI 1) = 0 ∨ (nI 1) = 1) ∧ (Q (some (vi (nI 1))) (setI (setI σ 228 0 ((hI σ 225 0 5).toNatClampNeg) (-6 : Int32)) 225 0 2 (hI σ 13 0 ((-6 : Int32).toNatClampNeg))) ∧ σ.1 = σ.1))) ∧ (¬ (lg_cmp (hL σ 14 0 ((-6 : Int32).toNatClampNeg)) (lN 0)) = 0 → (vp_in (-6 : Int32) 12 ∧ (((nI 1) = 0 ∨ (nI 1) = 1) ∧ (Q (some (vi (nI 1))) (setL (setI (setI σ 228 0 ((hI σ 225 0 5).toNatClampNeg) (-6 : Int32)) 225 0 2 (hI σ 13 0 ((-6 : Int32).toNatClampNeg))) 225 0 3 (hL σ 14 0 ((-6 : Int32).toNatClampNeg))) ∧ σ.1 = σ.1))))))))))) ∧ ((-6 : Int32) = (-6) → (((nI 0) = 0 ∨ (nI 0) = 1) ∧ (Q (some (vi (nI 0))) σ ∧ σ.1 = σ.1))))
      exact ⟨fun g => absurd rfl g, fun _ => ⟨Or.inl rfl, hq, rfl⟩⟩
    · have he : P x.1 = [] := by
        by_cases w : P x.1 = []
        · exact w
        · exact absurd w (of_decide_eq_false g)
      refine ⟨fun g => absurd g (by decide), fun _ => ?_⟩
      rw [h2]
      refine cal_i c2 rfl ?_
      cases e2 : rdO (x.1, none) rs 0 with
      | none =>
        have en : rtNext P rs x = none := by unfold rtNext; rw [e]; show (if P x.1 = [] then _ else _) = _; rw [if_pos he, e2]
        rw [en] at hq
        show Sat true (d + 1) 47 σ.1 Q 58 [some (vr 225 0), some (vr 8 0), some (vi (-6)), some (vi (nI 1))] [] σ
        refine wp_ok (cut := []) ma_47 rfl 32 _ _ _ _ ?_
        show ((¬ (-6 : Int32) = (-6) → (vp_in (hI σ 225 0 5) 169 ∧ (vp_in (-6 : Int32) 12 ∧ (((nI 1) = 0 → (vp_in (-6 : Int32) 12 ∧ (((nI 1) = 0 ∨ (nI 1) = 1) ∧ (Q (some (vi (nI 1))) (setL (setI (setI σ 228 0 ((hI σ 225 0 5).toNatClampNeg) (-6 : Int32)) 225 0 2 (hI σ 13 0 ((-6 : Int32).toNatClampNeg))) 225 0 3 (hL σ 14 0 ((-6 : Int32).toNatClampNeg))) ∧ σ.1 = σ.1)))) ∧ (¬ (nI 1) = 0 → (vp_in (-6 : Int32) 12 ∧ (((lg_cmp (hL σ 14 0 ((-6 : Int32).toNatClampNeg)) (lN 0)) = 0 → (((nI 1) = 0 ∨ (nI 1) = 1) ∧ (Q (some (vi (nI 1))) (setI (setI σ 228 0 ((hI σ 225 0 5).toNatClampNeg) (-6 : Int32)) 225 0 2 (hI σ 13 0 ((-6 : Int32).toNatClampNeg))) ∧ σ.1 = σ.1))) ∧ (¬ (lg_cmp (hL σ 14 0 ((-6 : Int32).toNatClampNeg)) (lN 0)) = 0 → (vp_in (-6 : Int32) 12 ∧ (((nI 1) = 0 ∨ (nI 1) = 1) ∧ (Q (some (vi (nI 1))) (setL (setI (setI σ 228 0 ((hI σ 225 0 5).toNatClampNeg) (-6 : Int32)) 225 0 2 (hI σ 13 0 ((-6 : Int32).toNatClampNeg))) 225 0 3 (hL σ 14 0 ((-6 : Int32).toNatClampNeg))) ∧ σ.1 = σ.1))))))))))) ∧ ((-6 : Int32) = (-6) → (((nI 0) = 0 ∨ (nI 0) = 1) ∧ (Q (some (vi (nI 0))) σ ∧ σ.1 = σ.1))))
        exact ⟨fun g => absurd rfl g, fun _ => ⟨Or.inl rfl, hq, rfl⟩⟩
      | some r =>
        have hz := rdO_0 (k := r.1) (y := r.2) e2
        have en : rtNext P rs x = some (r.1, (r.2.1, if r.2.2 = none then x.2 else r.2.2)) := by unfold rtNext; rw [e]; show (if P x.1 = [] then _ else _) = _; rw [if_pos he, e2]
        rw [en] at hq
        refine tail r _ hz true ?_
        have e3 : (if true = true ∧ r.2.2 = none then x.2 else r.2.2) = (if r.2.2 = none then x.2 else r.2.2) := by
          by_cases w : r.2.2 = none
          · rw [if_pos ⟨rfl, w⟩, if_pos w]
          · rw [if_neg (fun q => w q.2), if_neg w]
        rw [e3]
        exact hq
end
