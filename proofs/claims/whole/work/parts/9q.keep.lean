/-! a frame may change its mode; keepState -/
theorem Sat_t {d mi : Nat} {B : Nat × Nat × Nat} {Q : Option AV → Hp → Prop} {pc : Nat} {ls : Ls} {st : List AV} {σ : Hp} (h : Sat false d mi B (fun r s => ∃ s0, Q r s0 ∧ s = fill s0 ∧ ∃ j, s0.1.1 = 266 + 10 * j) pc ls st (fill σ)) : Sat true d mi B Q pc ls st σ := by
  intro me hme p l e R s m args below meth c Qm D dT z b n0 t0 X hB1 hB2 hz hret H locs arr kc ks hH hS hL h1 h2
  refine h me hme p l e R s m args below meth c Qm D dT z b n0 t0 X hB1 hB2 hz ?_ H locs arr kc ks (HI_tf hH).1 hS hL h1 h2
  intro r σ' H' locs' arr' kc' ks' pc' ri a1 a2 a3 a4 a5 a6 a7 a8
  obtain ⟨s0, b1, b2, b3⟩ := a3
  subst b2
  exact hret r s0 H' locs' arr' kc' ks' pc' ri a1 a2 b1 a4 (HI_ft a5 b3) a6 a7 a8
theorem Sat_f {d mi : Nat} {B : Nat × Nat × Nat} {Q : Option AV → Hp → Prop} {pc : Nat} {ls : Ls} {st : List AV} {σ : Hp} (h : Sat true d mi B Q pc ls st σ) (hj : ∃ j, σ.1.1 = 266 + 10 * j) : Sat false d mi B (fun r s => ∃ s0, Q r s0 ∧ s = fill s0 ∧ ∃ j, s0.1.1 = 266 + 10 * j) pc ls st (fill σ) := by
  intro me hme p l e R s m args below meth c Qm D dT z b n0 t0 X hB1 hB2 hz hret H locs arr kc ks hH hS hL h1 h2
  refine h me hme p l e R s m args below meth c Qm D dT z b n0 t0 X hB1 hB2 hz ?_ H locs arr kc ks (HI_ft hH hj) hS hL h1 h2
  intro r σ' H' locs' arr' kc' ks' pc' ri a1 a2 a3 a4 a5 a6 a7 a8
  obtain ⟨b1, b2⟩ := HI_tf a5
  exact hret r (fill σ') H' locs' arr' kc' ks' pc' ri a1 a2 ⟨σ', a3, rfl, b2⟩ a4 b1 a6 a7 a8
theorem full_of {h σ : Hp} (k : ∀ f p i a, srf f p i = some a → hR h f p i = some a) : fill h = h := by
  unfold fill
  refine Prod.ext rfl (Prod.ext rfl (Prod.ext rfl ?_))
  funext f p i
  show rdr true h f p i = hR h f p i
  unfold rdr
  cases e : srf f p i with
  | some a => simp only [e]; exact (k f p i a e).symm
  | none => simp only [e]
theorem full_at {σ : Hp} {f p i : Nat} {a : Nat × Nat} (e : srf f p i = some a) : hR (fill σ) f p i = some a := by
  rw [fill_R]
  unfold rdr
  simp only [e]
theorem lk_mem {l : List (Nat × Nat)} {i g : Nat} (h : lkI l i = some g) : (i, g) ∈ l := by
  induction l with
  | nil => cases h
  | cons q r ih =>
    obtain ⟨a, v⟩ := q
    unfold lkI at h
    cases c : Nat.beq a i with
    | true =>
      rw [c] at h
      have e1 : a = i := Nat.eq_of_beq_eq_true c
      have e2 : v = g := Option.some.inj h
      rw [e1, e2]
      exact List.mem_cons_self
    | false =>
      rw [c] at h
      exact List.mem_cons_of_mem _ (ih h)
theorem srf_8 {p i : Nat} {a : Nat × Nat} (h : srf 8 p i = some a) : ∃ g, (i, g) ∈ srT.getD 8 [] ∧ a = (g, p) := by
  have h : (match lkI (srT.getD 8 []) i with
    | some g => some (g, p)
    | none => none) = some a := h
  cases e : lkI (srT.getD 8 []) i with
  | none => rw [e] at h; cases h
  | some g =>
    rw [e] at h
    exact ⟨g, lk_mem e, (Option.some.inj h).symm⟩
theorem srf_no {f p i : Nat} (h : f = 3 ∨ (9 ≤ f ∧ f ≤ 17)) : srf f p i = none := by
  have hx : f = 3 ∨ f = 9 ∨ f = 10 ∨ f = 11 ∨ f = 12 ∨ f = 13 ∨ f = 14 ∨ f = 15 ∨ f = 16 ∨ f = 17 := by omega
  rcases hx with e | e | e | e | e | e | e | e | e | e <;> subst e <;> rfl
def Bm (m L : Nat) : Nat × Nat × Nat := (266 + 10 * m, 92553 + 2111 * m, L)
theorem Bm_le {m m' : Nat} (L : Nat) (h : m ≤ m') : leB (Bm m L) (Bm m' L) := ⟨by show 266 + 10 * m ≤ 266 + 10 * m'; omega, by show 92553 + 2111 * m ≤ 92553 + 2111 * m'; omega⟩
def HiC (σ : Hp) (m : Nat) (D : List DB) : Prop := hI σ 1 0 7 = nI D.length ∧ D.length ≤ m ∧ m ≤ 10 ∧ ∃ q : Nat → Nat, (∀ k, k < m → hR σ 3 0 k = some (8, q k + 1) ∧ q k < m) ∧ (∀ k, m ≤ k → k < 10 → hR σ 3 0 k = none) ∧ (∀ i j, i < j → j < m → q i ≠ q j) ∧ All D (fun k x => DBC σ (q k + 1) x)
def Fi (S : Nat → Nat → Prop) (σ h : Hp) : Prop := ∀ f p, ¬ S f p → hI h f p = hI σ f p ∧ hL h f p = hL σ f p
theorem Fi.rfl' (S : Nat → Nat → Prop) (σ : Hp) : Fi S σ σ := fun _ _ _ => ⟨rfl, rfl⟩
theorem Fi.tr {S : Nat → Nat → Prop} {σ h k : Hp} (a : Fi S σ h) (b : Fi S h k) : Fi S σ k := fun f p n => ⟨(b f p n).1.trans (a f p n).1, (b f p n).2.trans (a f p n).2⟩
theorem Fi.mo {S T : Nat → Nat → Prop} {σ h : Hp} (a : Fi S σ h) (m : ∀ f p, S f p → T f p) : Fi T σ h := fun f p n => a f p fun s => n (m f p s)
theorem Fr.fi {S : Nat → Nat → Prop} {σ h : Hp} (a : Fr S σ h) : Fi S σ h := fun f p n => ⟨(a.2 f p n).1, (a.2 f p n).2.1⟩
/-- the same ints and longs, the counts and refs of another heap -/
def asIn (σ h : Hp) : Hp := (σ.1, h.2.1, h.2.2.1, σ.2.2.2)
theorem Fi.fr {S : Nat → Nat → Prop} {σ h : Hp} (a : Fi S σ h) : Fr S σ (asIn σ h) := ⟨rfl, fun f p n => ⟨(a f p n).1, (a f p n).2, rfl⟩⟩
theorem DBC_fi {S : Nat → Nat → Prop} {σ h : Hp} {j : Nat} {x : DB} (f : Fi S σ h) (n : ∀ g, 8 ≤ g → g ≤ 17 → ¬ S g j) (k : DBC σ j x) : DBC h j x := DBC_fr (h := asIn σ h) f.fr n k
theorem CS_fi {S : Nat → Nat → Prop} {σ h : Hp} {P : Nat → List Line} {X : Nat → XA} {rs : List (Pl × Pl)} {es : List En} (f : Fi S σ h) (n : ∀ g i, 8 ≤ g → g ≤ 37 → i < 12 → ¬ S g i) (k : CS σ P X rs es) : CS h P X rs es := CS_fr (h := asIn σ h) f.fr n k
def SKp (f p : Nat) : Prop := f = 1 ∨ f = 3 ∨ (8 ≤ f ∧ f ≤ 17 ∧ p ≠ 0)
def kpM (m : Nat) (D : List DB) : Nat := if (capD D).length = m then m + 1 else m
theorem kpM_ge (m : Nat) (D : List DB) : m ≤ kpM m D := by
  unfold kpM
  split <;> omega
section
variable {σ : Hp} {m L : Nat} {D : List DB} {x : DB}
def KpP (σ : Hp) (m : Nat) (D : List DB) (x : DB) (h : Hp) : Prop := HiC h m D ∧ DBC h 0 x ∧ Fi SKp σ h ∧ ∀ k, k ≠ 7 → hI h 1 0 k = hI σ 1 0 k
/-- the row that is written -/
theorem s_k86 {Q : Option AV → Hp → Prop} {d : Nat} {D1 : List DB} {h : Hp} (hq : ∀ h, KpP σ m (D1 ++ [x]) x h → Q none h) (h9 : D1.length ≤ 9) (hm : D1.length < m) (hH : HiC h m D1) (hB : h.1 = Bm m L) (hx : DBC h 0 x) (hf : Fi SKp σ h) (h1 : ∀ k, k ≠ 7 → hI h 1 0 k = hI σ 1 0 k) : Sat true (d + 2) 106 (Bm m L) Q 86 [some (vr 1 0), none, none] [] h := by
  obtain ⟨z1, z2, z3, q, q1, q2, q3, q4⟩ := hH
  obtain ⟨r1, r2⟩ := q1 D1.length hm
  obtain ⟨a, ea⟩ : ∃ a, a = q D1.length := ⟨_, rfl⟩
  rw [← ea] at r1 r2
  have c1 : h.1.1 = 266 + 10 * m := congrArg Prod.fst hB
  have hj : 266 + 10 * a < h.1.1 := by omega
  refine wp_ok (cut := [95]) ma_106 rfl 5 _ _ _ _ ?_
  show (vp_in (hI h 1 0 7) 10 ∧ Sat true (d + 2) 106 (Bm m L) Q 95 [some (vr 1 0), none, none] [Sum.inr (Sum.inr (hR h 3 0 ((hI h 1 0 7).toNatClampNeg)))] h)
  rw [z1, ix (by omega), r1]
  refine ⟨inb (by omega) (by omega), ?_⟩
  refine wp_ok (cut := []) ma_106 rfl 11 _ _ _ _ ?_
  show (266 + 10 * a < h.1.1 ∧ CalV true (d + 1) 59 [vr 8 (a+1), vr 8 0] h (Bm m L) (fun s1 => (Q none (setI s1 1 0 7 ((hI s1 1 0 7) + (nI 1))) ∧ s1.1 = Bm m L)))
  refine ⟨hj, cp_v (e_becomeTo d hj hx) hB (fun h2 k2 e2 => ?_)⟩
  have e7 : hI h2 1 0 7 = nI D1.length := by rw [(k2.2.2 1 0 (fun w => by have := w.1.1; omega)).1]; exact z1
  rw [e7, addN]
  have f2 : Fr (SBe (a+1)) h (setI h2 1 0 7 (nI (D1.length + 1))) → True := fun _ => trivial
  have fi2 : Fi SKp h h2 := k2.2.fi.mo fun f p w => Or.inr (Or.inr ⟨w.1.1, w.1.2, by have := w.2; omega⟩)
  have fi3 : Fi SKp h2 (setI h2 1 0 7 (nI (D1.length + 1))) := ((Fr.rfl' (fun f _ => f = 1) h2).sI (f := 1) rfl _ _).fi.mo fun f p w => Or.inl w
  have frx : ∀ g p, 8 ≤ g → g ≤ 17 → hI (setI h2 1 0 7 (nI (D1.length + 1))) g p = hI h2 g p ∧ hL (setI h2 1 0 7 (nI (D1.length + 1))) g p = hL h2 g p := fun g p a b => ⟨hI_f _ _ _ (by omega), rfl⟩
  have fi4 : Fi (fun f _ => f = 1) h2 (setI h2 1 0 7 (nI (D1.length + 1))) := ((Fr.rfl' (fun f _ => f = 1) h2).sI (f := 1) rfl _ _).fi
  refine ⟨hq _ ⟨⟨?_, ?_, z3, q, ?_, ?_, q3, ?_⟩, ?_, (hf.tr fi2).tr fi3, fun k hk => ?_⟩, e2⟩
  · rw [hI_s, List.length_append]
    rfl
  · rw [List.length_append]
    show D1.length + 1 ≤ m
    omega
  · intro k hk
    have : hR (setI h2 1 0 7 (nI (D1.length + 1))) 3 0 = hR h 3 0 := (k2.2.2 3 0 (fun w => by have := w.1.1; omega)).2.2
    rw [this]
    exact q1 k hk
  · intro k hk hk2
    have : hR (setI h2 1 0 7 (nI (D1.length + 1))) 3 0 = hR h 3 0 := (k2.2.2 3 0 (fun w => by have := w.1.1; omega)).2.2
    rw [this]
    exact q2 k hk hk2
  · refine All_snoc q4 (fun j y hj' c => ?_) ?_
    · have : q j ≠ a := by rw [ea]; exact q3 j D1.length hj' hm
      exact DBC_fi fi4 (fun g _ _ w => by have : g = 1 := w; omega) (DBC_fr k2.2 (fun g _ _ w => by have := w.2; omega) c)
    · rw [← ea]
      exact DBC_fi fi4 (fun g _ _ w => by have : g = 1 := w; omega) k2.1
  · exact DBC_fi fi4 (fun g _ _ w => by have : g = 1 := w; omega) (DBC_fr k2.2 (fun g _ _ w => by have := w.2; omega) hx)
  · rw [hI_k _ _ _ _ hk, (k2.2.2 1 0 (fun w => by have := w.1.1; omega)).1]
    exact h1 k hk
theorem s_k58 {Q : Option AV → Hp → Prop} {d : Nat} {D1 : List DB} {h : Hp} {m' : Nat} (em : m' = if D1.length = m then m + 1 else m) (hq : ∀ h, KpP σ m' (D1 ++ [x]) x h → Q none h) (h9 : D1.length ≤ 9) (hH : HiC h m D1) (hB : h.1 = Bm m L) (hx : DBC h 0 x) (hf : Fi SKp σ h) (h1 : ∀ k, k ≠ 7 → hI h 1 0 k = hI σ 1 0 k) : Sat true (d + 2) 106 (Bm m' L) Q 58 [some (vr 1 0), none, none] [] h := by
  have hH' := hH
  obtain ⟨z1, z2, z3, q, q1, q2, q3, q4⟩ := hH
  refine wp_ok (cut := [70, 86]) ma_106 rfl 6 _ _ _ _ ?_
  show (vp_in (hI h 1 0 7) 10 ∧ ((∀ f1 p2, (hR h 3 0 ((hI h 1 0 7).toNatClampNeg)) = some (f1, p2) → Sat true (d + 2) 106 (Bm m' L) Q 86 [some (vr 1 0), none, none] [] h) ∧ ((hR h 3 0 ((hI h 1 0 7).toNatClampNeg)) = none → Sat true (d + 2) 106 (Bm m' L) Q 70 [some (vr 1 0), none, none] [] h)))
  rw [z1, ix (by omega)]
  refine ⟨inb (by omega) (by omega), fun f p e => ?_, fun e => ?_⟩
  · -- there is one
    have hm : D1.length < m := Nat.lt_of_not_le fun w => by
      rw [q2 _ w (by omega)] at e
      cases e
    have e2 : m' = m := by rw [em, if_neg (by omega)]
    subst e2
    exact s_k86 hq h9 hm hH' hB hx hf h1
  · -- one is made
    have hm : D1.length = m := Classical.byContradiction fun w => by
      rw [(q1 _ (by omega)).1] at e
      cases e
    have e2 : m' = m + 1 := by rw [em, if_pos hm]
    subst e2
    have c1 : h.1.1 = 266 + 10 * m := congrArg Prod.fst hB
    have c2 : h.1.2.1 = 92553 + 2111 * m := congrArg (fun q => q.2.1) hB
    have c3 : h.1.2.2 = L := congrArg (fun q => q.2.2) hB
    refine Sat_t ?_
    generalize eQ : (fun (r : Option AV) (s : Hp) => ∃ s0, Q r s0 ∧ s = fill s0 ∧ ∃ j, s0.1.1 = 266 + 10 * j) = Q'
    refine wp_ok (cut := [74]) ma_106 rfl 2 _ _ _ _ ?_
    show (1 < (fill h).1.1 ∧ Sat false (d + 2) 106 (Bm (m + 1) L) Q' 74 [some (vr 1 0), none, none] [Sum.inr (Sum.inr (hR (fill h) 1 0 6))] (fill h))
    refine ⟨by show 1 < h.1.1; omega, ?_⟩
    refine wp_ok (cut := [81]) ma_106 rfl 3 _ _ _ _ ?_
    show (1 < (fill h).1.1 ∧ (fkd (fa (fill h).1.1).1 = (7, 11) ∧ (fill h).1.1 + 1 ≤ (Bm (m + 1) L).1 ∧ (fill h).1.2.1 + 11 ≤ (Bm (m + 1) L).2.1 ∧ Sat false (d + 2) 106 (Bm (m + 1) L) Q' 81 [some (vr 1 0), none, none] [Sum.inr (Sum.inr (some (fa (fill h).1.1))), vi (hI (fill h) 1 0 7), vr 3 0] (zap (fill h) (fa (fill h).1.1).1 (fa (fill h).1.1).2 11)))
    have ef : fa (fill h).1.1 = (8, m + 1) := by
      show fa h.1.1 = _
      rw [c1]
      exact fa_s (f := 8) (m := m) (by omega) (by omega)
    rw [ef]
    refine ⟨by show 1 < h.1.1; omega, rfl, by show h.1.1 + 1 ≤ 266 + 10 * (m + 1); omega, by show h.1.2.1 + 11 ≤ 92553 + 2111 * (m + 1); omega, ?_⟩
    refine wp_ok (cut := [86]) ma_106 rfl 3 _ _ _ _ ?_
    show CalV false (d + 1) 58 [vr 8 (m+1)] (zap (fill h) 8 (m + 1) 11) (Bm (m + 1) L) (fun s1 => (3 < s1.1.1 ∧ (cidx 8 (m+1) < s1.1.1 ∧ (vp_in (hI h 1 0 7) 10 ∧ Sat false (d + 2) 106 (Bm (m + 1) L) Q' 86 [some (vr 1 0), none, none] [] (setR s1 3 0 ((hI h 1 0 7).toNatClampNeg) (some (8, m+1)))))))
    have cc : cidx 8 (m + 1) = 266 + 10 * m := by show 266 + 10 * m + 0 = _; omega
    refine cm_v (i_State d (σ := zap (fill h) 8 (m + 1) 11) (i := m + 1) (by rw [cc]; show _ < h.1.1 + 1; omega) (fun t ht => ?_)) ⟨by show h.1.1 + 1 + 9 ≤ 266 + 10 * (m + 1); omega, by show h.1.2.1 + 11 + 2100 ≤ 92553 + 2111 * (m + 1); omega⟩ (fun h2 k2 e2 => ?_)
    · show fa (h.1.1 + 1 + t) = _
      rw [c1]
      have := fa_s (f := 9 + t) (m := m) (by omega) (by omega)
      rw [show 266 + 10 * m + 1 + t = 266 + 10 * m + (9 + t - 8) by omega]
      exact this
    have g1 : h2.1.1 = h.1.1 + 1 + 9 := congrArg Prod.fst e2
    have g2 : h2.1.2.1 = h.1.2.1 + 11 + 2100 := congrArg (fun q => q.2.1) e2
    have g3 : h2.1.2.2 = h.1.2.2 := congrArg (fun q => q.2.2) e2
    rw [z1, ix (by omega), hm]
    refine ⟨by omega, by rw [cc]; omega, inb (by omega) (by omega), ?_⟩
    -- what came out
    have ot : ∀ f p, ¬ (8 ≤ f ∧ f ≤ 17 ∧ p = m + 1) → Sm (fill h) h2 f p := fun f p w => Sm.tr (o_z (by omega)) (k2.1 f p w)
    have full : fill (setR h2 3 0 m (some (8, m + 1))) = setR h2 3 0 m (some (8, m + 1)) := full_of (σ := h) (fun f p i a e => by
      have n3 : f ≠ 3 := fun w => by rw [srf_no (Or.inl w)] at e; cases e
      rw [hR_r, if_neg (by omega)]
      by_cases w : 8 ≤ f ∧ f ≤ 17 ∧ p = m + 1
      · have e8 : f = 8 := Classical.byContradiction fun u => by rw [srf_no (Or.inr (by omega))] at e; cases e
        subst e8
        obtain ⟨g, i1, i2⟩ := srf_8 e
        rw [i2, w.2.2]
        exact Rf_of k2 (by decide) (i, g) i1
      · rw [(ot f p w).2.2]
        exact full_at e)
    rw [← full, ← eQ]
    refine Sat_f ?_ ⟨m + 1, by show h2.1.1 = _; omega⟩
    have r3 : ∀ i, hR (setR h2 3 0 m (some (8, m + 1))) 3 0 i = if i = m then some (8, m + 1) else hR h 3 0 i := fun i => by
      rw [hR_r]
      by_cases c : i = m
      · rw [if_pos c, if_pos ⟨rfl, rfl, c⟩]
      · rw [if_neg c, if_neg (fun w => c w.2.2), (ot 3 0 (by omega)).2.2]
        rfl
    have fi2 : Fi SKp h (setR h2 3 0 m (some (8, m + 1))) := fun f p n => ⟨(ot f p (fun w => n (Or.inr (Or.inr ⟨w.1, w.2.1, by omega⟩)))).1, (ot f p (fun w => n (Or.inr (Or.inr ⟨w.1, w.2.1, by omega⟩)))).2.1⟩
    have fi5 : Fi (fun f p => 8 ≤ f ∧ f ≤ 17 ∧ p = m + 1) h (setR h2 3 0 m (some (8, m + 1))) := fun f p n => ⟨(ot f p n).1, (ot f p n).2.1⟩
    refine s_k86 (m := m + 1) hq h9 (by omega) ⟨?_, by omega, by omega, fun k => if k = m then m else q k, ?_, ?_, ?_, ?_⟩ ?_ (DBC_fi fi5 (fun g _ _ w => by have := w.2.2; omega) hx) (hf.tr fi2) (fun k hk => ?_)
    · show hI h2 1 0 7 = _
      rw [(ot 1 0 (by omega)).1]
      exact z1
    · intro k hk
      rw [r3]
      by_cases c : k = m
      · simp only [if_pos c]
        exact ⟨trivial, by omega⟩
      · simp only [if_neg c]
        obtain ⟨w1, w2⟩ := q1 k (by omega)
        exact ⟨w1, by omega⟩
    · intro k hk hk2
      rw [r3, if_neg (by omega)]
      exact q2 k (by omega) hk2
    · intro i j hij hjm
      have ni : i ≠ m := by omega
      simp only [if_neg ni]
      by_cases c : j = m
      · simp only [if_pos c]
        have := (q1 i (by omega)).2
        omega
      · simp only [if_neg c]
        exact q3 i j hij (by omega)
    · intro k y hy
      have hk := All_lt hy
      have nk : k ≠ m := by omega
      simp only [if_neg nk]
      have := (q1 k (by omega)).2
      exact DBC_fi fi5 (fun g _ _ w => by have := w.2.2; omega) (q4 k y hy)
    · show h2.1 = _
      rw [show h2.1 = (h2.1.1, h2.1.2.1, h2.1.2.2) from rfl, g1, g2, g3, c1, c2, c3]
      refine Prod.ext ?_ (Prod.ext ?_ rfl)
      · show 266 + 10 * m + 1 + 9 = 266 + 10 * (m + 1)
        omega
      · show 92553 + 2111 * m + 11 + 2100 = 92553 + 2111 * (m + 1)
        omega
    · show hI h2 1 0 k = _
      rw [(ot 1 0 (by omega)).1]
      exact h1 k hk
theorem e_keepState (d : Nat) (hH : HiC σ m D) (hB : σ.1 = Bm m L) (hx : DBC σ 0 x) : RV (d + 2) 106 [vr 1 0] σ (Bm (kpM m D) L) (fun h => KpP σ (kpM m D) (capD D ++ [x]) x h) := by
  refine RV_of mt_106 (Nat.le_of_ble_eq_true rfl) (by rw [hB]; exact Bm_le L (kpM_ge m D)) fun Q hq => ?_
  have hH' := hH
  obtain ⟨z1, z2, z3, q, q1, q2, q3, q4⟩ := hH
  by_cases hl : 10 ≤ D.length
  · have em : m = 10 := by omega
    subst em
    have hl10 : D.length = 10 := by omega
    have e : capD D = D.drop 1 := if_pos hl
    have l9 : (capD D).length = 9 := by rw [e, List.length_drop, hl10]
    obtain ⟨a, ea⟩ : ∃ a, a = q 0 := ⟨_, rfl⟩
    obtain ⟨r1, r2⟩ := q1 0 (by omega)
    rw [← ea] at r1 r2
    have loop : ∀ (n k : Nat) (h : Hp), k + n = 10 → 1 ≤ k → Fr (fun f p => f = 3 ∧ p = 0) σ h ∨ False → (∀ i, hR h 3 0 i = if i + 1 < k then hR σ 3 0 (i + 1) else hR σ 3 0 i) → Sat true (d + 2) 106 (Bm (kpM 10 D) L) Q 18 [some (vr 1 0), some (vr 8 (a+1)), some (vi (nI k))] [] h := by
      intro n
      induction n with
      | zero =>
        intro k h hk hk1 f hr
        have f : Fr (fun f p => f = 3 ∧ p = 0) σ h := f.elim id False.elim
        have hk : k = 10 := hk
        subst hk
        have c1 : h.1.1 = 266 + 10 * 10 := by rw [f.1, hB]; rfl
        refine wp_ok (cut := [18, 37, 58]) ma_106 rfl 12 _ _ _ _ ?_
        show (((nI 10) ≤ (nI 10) → (266 + 10 * a < h.1.1 ∧ (vp_in (nI 9) 10 ∧ Sat true (d + 2) 106 (Bm (kpM 10 D) L) Q 58 [some (vr 1 0), some (vr 8 (a+1)), some (vi (nI 10))] [] (setI (setR h 3 0 9 (some (8, a+1))) 1 0 7 (nI 9))))) ∧ (¬ (nI 10) ≤ (nI 10) → (vp_in (nI 10) 10 ∧ Sat true (d + 2) 106 (Bm (kpM 10 D) L) Q 37 [some (vr 1 0), some (vr 8 (a+1)), some (vi (nI 10))] [Sum.inr (Sum.inr (hR h 3 0 10)), vi ((nI 10) - (nI 1)), vr 3 0] h)))
        refine br_le (by omega) (by omega) (fun _ => ⟨by omega, inb (by omega) (by omega), ?_⟩) (fun g => by omega)
        refine Sat_no 1 (Sat_no 2 (s_k58 (σ := σ) (D1 := capD D) (m := 10) rfl hq (by omega) ⟨?_, by omega, by omega, fun i => if i = 9 then q 0 else q (i + 1), ?_, fun k a b => by omega, ?_, ?_⟩ (f.1.trans hB) ?_ ?_ ?_))
        · rw [hI_s, l9]
        · intro i hi
          show hR (setR h 3 0 9 (some (8, a + 1))) 3 0 i = _ ∧ _
          rw [hR_r]
          by_cases c : i = 9
          · rw [if_pos ⟨rfl, rfl, c⟩]
            simp only [if_pos c]
            rw [← ea]
            exact ⟨rfl, r2⟩
          · rw [if_neg (fun w => c w.2.2), hr, if_pos (by omega)]
            simp only [if_neg c]
            exact q1 (i + 1) (by omega)
        · intro i j hij hj
          have ni : i ≠ 9 := by omega
          simp only [if_neg ni]
          by_cases c : j = 9
          · simp only [if_pos c]
            exact fun w => q3 0 (i + 1) (by omega) (by omega) w.symm
          · simp only [if_neg c]
            exact q3 (i + 1) (j + 1) (by omega) (by omega)
        · intro i y hy
          rw [e, List.getElem?_drop] at hy
          have hi := All_lt hy
          have ni : i ≠ 9 := by omega
          simp only [if_neg ni]
          have w := q4 (1 + i) y hy
          rw [Nat.add_comm 1 i] at w
          exact DBC_fi (S := fun f p => f = 3 ∨ f = 1) (fun g p n => ⟨by rw [hI_f _ _ _ (by omega)]; exact (f.2 g p (fun w => n (Or.inl w.1))).1, (f.2 g p (fun w => n (Or.inl w.1))).2.1⟩) (fun g _ _ w => by omega) w
        · exact DBC_fi (S := fun f p => f = 3 ∨ f = 1) (fun g p n => ⟨by rw [hI_f _ _ _ (by omega)]; exact (f.2 g p (fun w => n (Or.inl w.1))).1, (f.2 g p (fun w => n (Or.inl w.1))).2.1⟩) (fun g _ _ w => by omega) hx
        · exact fun g p n => ⟨by rw [hI_f _ _ _ (by unfold SKp at n; omega)]; exact (f.2 g p (fun w => n (Or.inr (Or.inl w.1)))).1, (f.2 g p (fun w => n (Or.inr (Or.inl w.1)))).2.1⟩
        · intro k hk
          rw [hI_k _ _ _ _ hk]
          exact congrFun (f.2 1 0 (fun w => by omega)).1 k
      | succ n ih =>
        intro k h hk hk1 f hr
        have f : Fr (fun f p => f = 3 ∧ p = 0) σ h := f.elim id False.elim
        have c1 : h.1.1 = 266 + 10 * 10 := by rw [f.1, hB]; rfl
        obtain ⟨t1, t2⟩ := q1 k (by omega)
        obtain ⟨c, ec⟩ : ∃ c, c = q k := ⟨_, rfl⟩
        rw [← ec] at t1 t2
        have t3 : hR h 3 0 k = some (8, c + 1) := by rw [hr, if_neg (by omega)]; exact t1
        refine wp_ok (cut := [18, 37, 58]) ma_106 rfl 12 _ _ _ _ ?_
        show (((nI 10) ≤ (nI k) → (266 + 10 * a < h.1.1 ∧ (vp_in (nI 9) 10 ∧ Sat true (d + 2) 106 (Bm (kpM 10 D) L) Q 58 [some (vr 1 0), some (vr 8 (a+1)), some (vi (nI k))] [] (setI (setR h 3 0 9 (some (8, a+1))) 1 0 7 (nI 9))))) ∧ (¬ (nI 10) ≤ (nI k) → (vp_in (nI k) 10 ∧ Sat true (d + 2) 106 (Bm (kpM 10 D) L) Q 37 [some (vr 1 0), some (vr 8 (a+1)), some (vi (nI k))] [Sum.inr (Sum.inr (hR h 3 0 ((nI k).toNatClampNeg))), vi ((nI k) - (nI 1)), vr 3 0] h)))
        rw [ix (by omega), t3]
        refine br_le (by omega) (by omega) (fun g => by omega) (fun _ => ⟨inb (by omega) (by omega), ?_⟩)
        refine wp_ok (cut := [18, 58]) ma_106 rfl 3 _ _ _ _ ?_
        show (266 + 10 * c < h.1.1 ∧ (vp_in (nI k - nI 1) 10 ∧ Sat true (d + 2) 106 (Bm (kpM 10 D) L) Q 18 [some (vr 1 0), some (vr 8 (a+1)), some (vi ((nI k) + nI 1))] [] (setR h 3 0 ((nI k - nI 1).toNatClampNeg) (some (8, c+1)))))
        rw [subN (a := k) (b := 1) (by omega), ix (by omega), addN]
        refine ⟨by omega, inb (by omega) (by omega), ih (k + 1) _ (by omega) (by omega) (Or.inl (f.sR (f := 3) ⟨rfl, rfl⟩ _ _)) (fun i => ?_)⟩
        rw [hR_r]
        by_cases w : i = k - 1
        · rw [if_pos ⟨rfl, rfl, w⟩, if_pos (by omega), w, show k - 1 + 1 = k by omega]
          exact t1.symm
        · rw [if_neg (fun u => w u.2.2), hr]
          by_cases u : i + 1 < k
          · rw [if_pos u, if_pos (by omega)]
          · rw [if_neg u, if_neg (by omega)]
    have c0 : σ.1.1 = 266 + 10 * 10 := by rw [hB]; rfl
    refine wp_ok (cut := [15, 58]) ma_106 rfl 8 _ _ _ _ ?_
    show (((hI σ 1 0 7) < (nI 10) → Sat true (d + 2) 106 (Bm (kpM 10 D) L) Q 58 [some (vr 1 0), none, none] [] σ) ∧ (¬ (hI σ 1 0 7) < (nI 10) → (vp_in (nI 0) 10 ∧ Sat true (d + 2) 106 (Bm (kpM 10 D) L) Q 15 [some (vr 1 0), none, none] [Sum.inr (Sum.inr (hR σ 3 0 0))] σ)))
    rw [z1, hl10, r1]
    refine br_lt (by omega) (by omega) (fun g => by omega) (fun _ => ⟨inb (by omega) (by omega), ?_⟩)
    refine wp_ok (cut := [18]) ma_106 rfl 3 _ _ _ _ ?_
    show Sat true (d + 2) 106 (Bm (kpM 10 D) L) Q 18 [some (vr 1 0), some (vr 8 (a+1)), some (vi (nI 1))] [] σ
    exact loop 9 1 σ (by omega) (by omega) (Or.inl (Fr.rfl' _ _)) (fun i => by rw [if_neg (by omega)])
  · have e : capD D = D := if_neg hl
    refine wp_ok (cut := [15, 58]) ma_106 rfl 8 _ _ _ _ ?_
    show (((hI σ 1 0 7) < (nI 10) → Sat true (d + 2) 106 (Bm (kpM m D) L) Q 58 [some (vr 1 0), none, none] [] σ) ∧ (¬ (hI σ 1 0 7) < (nI 10) → (vp_in (nI 0) 10 ∧ Sat true (d + 2) 106 (Bm (kpM m D) L) Q 15 [some (vr 1 0), none, none] [Sum.inr (Sum.inr (hR σ 3 0 0))] σ)))
    rw [z1]
    refine br_lt (by omega) (by omega) (fun _ => ?_) (fun g => by omega)
    have k := s_k58 (σ := σ) (x := x) (L := L) (D1 := capD D) (m := m) (d := d) (h := σ) (m' := kpM m D) rfl hq (by rw [e]; omega) (by rw [e]; exact hH') hB hx (Fi.rfl' _ _) (fun _ _ => rfl)
    exact k
end
