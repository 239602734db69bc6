/-! the class's Site.rememberSections -/
def rmO (hs : List Hd) (n : Nat) : Option Anc := (hs.find? fun y => decide (y.2.2.2 = some n)).map fun y => y.2.2.1
theorem rm_c {P : Nat → List Line} {r : Nat} {hs : List Hd} (hi : HdI P r hs) (n : Nat) : (rmO hs n = none ∧ hoF (fun _ => (-6)) 0 hs n = (-6)) ∨ ∃ j y, hs[j]? = some y ∧ rmO hs n = some y.2.2.1 ∧ hoF (fun _ => (-6)) 0 hs n = nI j := by
  unfold rmO
  cases e : hs.find? fun y => decide (y.2.2.2 = some n) with
  | none =>
    refine Or.inl ⟨rfl, hoF_no fun y hy w => ?_⟩
    have := List.find?_eq_none.mp e y hy
    exact this (decide_eq_true w)
  | some y =>
    have h0 : (fun y : Hd => decide (y.2.2.2 = some n)) y = true := List.find?_some (p := fun y : Hd => decide (y.2.2.2 = some n)) e
    have h1 : y.2.2.2 = some n := of_decide_eq_true h0
    have h2 := List.mem_of_find?_eq_some e
    obtain ⟨j, hj, ej⟩ := List.getElem_of_mem h2
    have hy : hs[j]? = some y := by rw [← ej]; exact List.getElem?_eq_getElem hj
    exact Or.inr ⟨j, y, hy, rfl, hoF_is hi hy h1 _⟩
def stE (P : Nat → List Line) (X : Nat → XA) (p n : Nat) (es : List En) : List En := match (secs (P p))[n]?, rmO (X p).2.2.1 n with
  | some s, some a => if 0 < s.1 then addE es (p, a, s.2) else es
  | _, _ => es
def remE (P : Nat → List Line) (X : Nat → XA) (p : Nat) : Nat → List En → List En
  | 0, es => es
  | n + 1, es => stE P X p n (remE P X p n es)
theorem erE_u {x : Pl} {es : List En} (h : EnU es) : EnU (erE x es) := by
  unfold EnU erE at *
  exact List.Nodup.sublist (List.Sublist.map plE (List.filter_sublist)) h
theorem erE_not {x : Pl} {es : List En} : ∀ y ∈ erE x es, plE y ≠ x := by
  intro y hy
  exact of_decide_eq_true (List.mem_filter.mp hy).2
theorem capE_sub (es : List En) : (capE es).Sublist es := by
  unfold capE
  split
  · exact List.eraseIdx_sublist _ _
  · exact List.Sublist.refl _
theorem addE_u {es : List En} {y : En} (h : EnU es) : EnU (addE es y) := by
  unfold EnU addE
  rw [List.map_append]
  have h1 : ((capE (erE (plE y) es)).map plE).Nodup := List.Nodup.sublist (List.Sublist.map plE (capE_sub _)) (erE_u h)
  refine List.nodup_append.mpr ⟨h1, List.nodup_cons.mpr ⟨fun w => (by cases w), List.nodup_nil⟩, fun a ha b hb e => ?_⟩
  obtain ⟨z, hz, ez⟩ := List.mem_map.mp ha
  have hb : b ∈ [plE y] := hb
  cases hb with
  | head => exact erE_not z ((capE_sub _).subset hz) (ez.trans e)
  | tail _ w => cases w
theorem stE_u {P : Nat → List Line} {X : Nat → XA} {p n : Nat} {es : List En} (h : EnU es) : EnU (stE P X p n es) := by
  unfold stE
  split
  · split
    · exact addE_u h
    · exact h
  · exact h
theorem remE_u {P : Nat → List Line} {X : Nat → XA} {p : Nat} {es : List En} (h : EnU es) : ∀ n, EnU (remE P X p n es) := by
  intro n
  induction n with
  | zero => exact h
  | succ n ih => exact stE_u ih
section
variable {σ : Hp} {P : Nat → List Line} {X : Nat → XA} {rs : List (Pl × Pl)} {es : List En}
set_option maxRecDepth 6000 in
theorem e_rememberSections (d : Nat) (cs : CS σ P X rs es) (hP : gP P) (hX : ∀ p, p < 12 → XFin P p (X p) ∧ (X p).2.2.1.length ≤ 100) (hu : EnU es) {p : Nat} (hp : p < 12) : PV (d + 3) 53 [vr 7 0, vi (nI p)] σ (fun h => EnsC h 0 (remE P X p (secs (P p)).length es) ∧ (∀ k, k ≠ 7 → hI h 8 0 k = hI σ 8 0 k) ∧ Fr SEn σ h) := by
  refine PV_of mt_53 (Nat.le_of_ble_eq_true rfl) fun Q hq => ?_
  have hdi := (XFin_hd hP hp (hX p hp).1).2.2
  have h100 := (hX p hp).2
  have b1 := nHd_b (hP p hp).1
  have b2 := (hP p hp).2
  have en : (secs (P p)).length = 0 + nHd (P p) := secs_len (P p) []
  have loop : ∀ (n j : Nat) (h : Hp), j + n = (secs (P p)).length → EnsC h 0 (remE P X p j es) → (∀ k, k ≠ 7 → hI h 8 0 k = hI σ 8 0 k) → Fr SEn σ h → Sat true (d + 3) 53 σ.1 Q 17 [some (vr 7 0), some (vi (nI p)), some (vr 21 p), some (vr 32 p), some (vi (nI j)), none] [] h := by
    intro n
    induction n with
    | zero =>
      intro j h hj k1 k2 k3
      have hj : j = (secs (P p)).length := hj
      subst hj
      have e13 : hI h 21 p 13 = nI (secs (P p)).length := by rw [(k3.2 21 p (fun w => by have := w.2; omega)).1]; exact (cs.2.1 p hp).1.2.2.2.2.2.1
      refine wp_ok (cut := [17]) ma_53 rfl 31 _ _ _ _ ?_
      show (p < 12 ∧ (((hI h 21 p 13) ≤ (nI (secs (P p)).length) → (Q none h ∧ h.1 = σ.1)) ∧ (¬ (hI h 21 p 13) ≤ (nI (secs (P p)).length) → (p < 12 ∧ (p < 12 ∧ (vp_in (nI (secs (P p)).length) 53 ∧ (((hI h 37 p ((nI (secs (P p)).length).toNatClampNeg)) = (-6) → Sat true (d + 3) 53 σ.1 Q 17 [some (vr 7 0), some (vi (nI p)), some (vr 21 p), some (vr 32 p), some (vi ((nI (secs (P p)).length) + nI 1)), some (vi (hI h 37 p ((nI (secs (P p)).length).toNatClampNeg)))] [] h) ∧ (¬ (hI h 37 p ((nI (secs (P p)).length).toNatClampNeg)) = (-6) → (p < 12 ∧ (p < 12 ∧ (vp_in (nI (secs (P p)).length) 53 ∧ (((hI h 30 p ((nI (secs (P p)).length).toNatClampNeg)) ≤ 0 → Sat true (d + 3) 53 σ.1 Q 17 [some (vr 7 0), some (vi (nI p)), some (vr 21 p), some (vr 32 p), some (vi ((nI (secs (P p)).length) + nI 1)), some (vi (hI h 37 p ((nI (secs (P p)).length).toNatClampNeg)))] [] h) ∧ (¬ (hI h 30 p ((nI (secs (P p)).length).toNatClampNeg)) ≤ 0 → (p < 12 ∧ (p < 12 ∧ (vp_in (hI h 37 p ((nI (secs (P p)).length).toNatClampNeg)) 100 ∧ (p < 12 ∧ (p < 12 ∧ (vp_in (nI (secs (P p)).length) 53 ∧ CalV true (d + 2) 66 [vr 8 0, vi (nI p), vl (hL h 35 p ((hI h 37 p ((nI (secs (P p)).length).toNatClampNeg)).toNatClampNeg)), vi (hI h 31 p ((nI (secs (P p)).length).toNatClampNeg))] h σ.1 (fun s1 => Sat true (d + 3) 53 σ.1 Q 17 [some (vr 7 0), some (vi (nI p)), some (vr 21 p), some (vr 32 p), some (vi ((nI (secs (P p)).length) + nI 1)), some (vi (hI h 37 p ((nI (secs (P p)).length).toNatClampNeg)))] [] s1))))))))))))))))))))
      rw [e13]
      exact ⟨hp, fun _ => ⟨hq h ⟨k1, k2, k3⟩, k3.1⟩, fun g => absurd (Int32.le_refl _) g⟩
    | succ n ih =>
      intro j h hj k1 k2 k3
      have hjl : j < (secs (P p)).length := by omega
      have hs : (secs (P p))[j]? = some (secs (P p))[j] := List.getElem?_eq_getElem hjl
      have fr : ∀ g, 21 ≤ g → g ≤ 37 → hI h g p = hI σ g p ∧ hL h g p = hL σ g p := fun g a b => ⟨(k3.2 g p (fun w => by have := w.2; omega)).1, (k3.2 g p (fun w => by have := w.2; omega)).2.1⟩
      have e13 : hI h 21 p 13 = nI (secs (P p)).length := by rw [(fr 21 (by omega) (by omega)).1]; exact (cs.2.1 p hp).1.2.2.2.2.2.1
      have sr := (cs.2.1 p hp).1.2.2.2.2.2.2 j _ hs
      have e30 : hI h 30 p j = nI (secs (P p))[j].1 := by rw [(fr 30 (by omega) (by omega)).1]; exact sr.1
      have e31 : hI h 31 p j = nI (secs (P p))[j].2 := by rw [(fr 31 (by omega) (by omega)).1]; exact sr.2
      have e37 : hI h 37 p j = hoF (fun _ => (-6)) 0 (X p).2.2.1 j := by rw [(fr 37 (by omega) (by omega)).1]; exact (cs.2.2.1 p hp).2.2.2.1 j (by omega)
      have sb := secs_bd (List.mem_of_getElem? hs)
      have l80 := txPg_len (hP p hp).1
      have nx : ∀ h' (x5 : Option AV), EnsC h' 0 (stE P X p j (remE P X p j es)) → (∀ k, k ≠ 7 → hI h' 8 0 k = hI σ 8 0 k) → Fr SEn σ h' → Sat true (d + 3) 53 σ.1 Q 17 [some (vr 7 0), some (vi (nI p)), some (vr 21 p), some (vr 32 p), some (vi (nI (j + 1))), x5] [] h' := fun h' x5 a b c => Sat_no 5 (ih (j + 1) h' (by omega) a b c)
      unfold stE at nx
      rw [hs] at nx
      refine wp_ok (cut := [17]) ma_53 rfl 31 _ _ _ _ ?_
      show (p < 12 ∧ (((hI h 21 p 13) ≤ (nI j) → (Q none h ∧ h.1 = σ.1)) ∧ (¬ (hI h 21 p 13) ≤ (nI j) → (p < 12 ∧ (p < 12 ∧ (vp_in (nI j) 53 ∧ (((hI h 37 p ((nI j).toNatClampNeg)) = (-6) → Sat true (d + 3) 53 σ.1 Q 17 [some (vr 7 0), some (vi (nI p)), some (vr 21 p), some (vr 32 p), some (vi ((nI j) + nI 1)), some (vi (hI h 37 p ((nI j).toNatClampNeg)))] [] h) ∧ (¬ (hI h 37 p ((nI j).toNatClampNeg)) = (-6) → (p < 12 ∧ (p < 12 ∧ (vp_in (nI j) 53 ∧ (((hI h 30 p ((nI j).toNatClampNeg)) ≤ 0 → Sat true (d + 3) 53 σ.1 Q 17 [some (vr 7 0), some (vi (nI p)), some (vr 21 p), some (vr 32 p), some (vi ((nI j) + nI 1)), some (vi (hI h 37 p ((nI j).toNatClampNeg)))] [] h) ∧ (¬ (hI h 30 p ((nI j).toNatClampNeg)) ≤ 0 → (p < 12 ∧ (p < 12 ∧ (vp_in (hI h 37 p ((nI j).toNatClampNeg)) 100 ∧ (p < 12 ∧ (p < 12 ∧ (vp_in (nI j) 53 ∧ CalV true (d + 2) 66 [vr 8 0, vi (nI p), vl (hL h 35 p ((hI h 37 p ((nI j).toNatClampNeg)).toNatClampNeg)), vi (hI h 31 p ((nI j).toNatClampNeg))] h σ.1 (fun s1 => Sat true (d + 3) 53 σ.1 Q 17 [some (vr 7 0), some (vi (nI p)), some (vr 21 p), some (vr 32 p), some (vi ((nI j) + nI 1)), some (vi (hI h 37 p ((nI j).toNatClampNeg)))] [] s1))))))))))))))))))))
      simp only [hp, true_and]
      rw [e13, ix (n := j) (by omega), e37, e30, e31, addN]
      have i1 : vp_in (nI j) 53 := inb (by omega) (by omega)
      refine br_le (by omega) (by omega) (fun g => by omega) (fun _ => ⟨i1, ?_⟩)
      rcases rm_c hdi j with ⟨c1, c2⟩ | ⟨i, y, c0, c1, c2⟩
      · rw [c1] at nx
        rw [c2]
        exact ⟨fun _ => nx h _ k1 k2 k3, fun g => absurd rfl g⟩
      · rw [c1] at nx
        have hi := All_lt c0
        have hc := (cs.2.2.1 p hp).2.2.1.2.2 i y c0
        have e35 : hL h 35 p i = lN (anC y.2.2.1) := by rw [(fr 35 (by omega) (by omega)).2]; exact hc.2.2.1
        rw [c2, ix (by omega), e35]
        refine ⟨fun g => absurd g (n6 (by omega)), fun _ => ⟨i1, br_le (b := 0) (by omega) (by omega) (fun g => ?_) (fun g => ⟨inb (by omega) (by omega), i1, ?_⟩)⟩⟩
        · have nx : ∀ h' (x5 : Option AV), EnsC h' 0 (if 0 < (secs (P p))[j].1 then addE (remE P X p j es) (p, y.2.2.1, (secs (P p))[j].2) else remE P X p j es) → (∀ k, k ≠ 7 → hI h' 8 0 k = hI σ 8 0 k) → Fr SEn σ h' → Sat true (d + 3) 53 σ.1 Q 17 [some (vr 7 0), some (vi (nI p)), some (vr 21 p), some (vr 32 p), some (vi (nI (j + 1))), x5] [] h' := nx
          rw [if_neg (by omega)] at nx
          exact nx h _ k1 k2 k3
        · have nx : ∀ h' (x5 : Option AV), EnsC h' 0 (if 0 < (secs (P p))[j].1 then addE (remE P X p j es) (p, y.2.2.1, (secs (P p))[j].2) else remE P X p j es) → (∀ k, k ≠ 7 → hI h' 8 0 k = hI σ 8 0 k) → Fr SEn σ h' → Sat true (d + 3) 53 σ.1 Q 17 [some (vr 7 0), some (vi (nI p)), some (vr 21 p), some (vr 32 p), some (vi (nI (j + 1))), x5] [] h' := nx
          rw [if_pos g] at nx
          exact cp_v (e_addEntry d (y := (p, y.2.2.1, (secs (P p))[j].2)) k1 (remE_u hu j) hp hc.2.2.2.2 sb.2) k3.1 (fun h2 q2 e2 => nx h2 _ q2.1 (fun k hk => (q2.2.1 k hk).trans (k2 k hk)) (k3.tr q2.2.2))
  refine wp_ok (cut := [17]) ma_53 rfl 12 _ _ _ _ ?_
  show (vp_in (nI p) 12 ∧ (vp_in (nI p) 12 ∧ Sat true (d + 3) 53 σ.1 Q 17 [some (vr 7 0), some (vi (nI p)), some (vr 21 ((nI p).toNatClampNeg)), some (vr 32 ((nI p).toNatClampNeg)), some (vi (nI 0)), none] [] σ))
  rw [ix (by omega)]
  have i1 : vp_in (nI p) 12 := inb hp (by omega)
  exact ⟨i1, i1, loop (secs (P p)).length 0 σ (by omega) cs.2.2.2.2 (fun _ _ => rfl) (Fr.rfl' _ _)⟩
end
