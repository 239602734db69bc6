/-! the model: resolve's loop -/
def SRes (f k : Nat) : Prop := f = 261 ∨ f = 262 ∨ (f = 233 ∧ (k = 35 ∨ k = 36 ∨ k = 37))
/-- on the way; σ: the heap as the loop began; x0 the place that the link names -/
def RmI (σ h : Hp) (x0 : Pl) (rs : List (Pl × Pl)) (seen : List Pl) (us : List Nat) (x : Pl) : Prop := hI h 233 0 36 = (-6) ∧ hI h 233 0 35 = nI seen.length ∧ us.length = seen.length ∧ All (seen ++ [x]) (SeenM h) ∧ (seen ++ [x])[0]? = some x0 ∧ (∀ r, r < 12 → hI h 262 0 r = hI σ 262 0 r + nI (usN r us)) ∧ (∀ u ∈ us, u < 12) ∧ seen.Nodup ∧ (∀ y ∈ seen ++ [x], y.2 ∈ plA x0 rs) ∧ FrM SRes σ h
/-- at the end -/
def RmC (σ h : Hp) (x0 : Pl) (r : Rs) : Prop := hI h 233 0 36 = nI r.1 ∧ hI h 233 0 35 = nI r.2.2.2.length ∧ hI h 233 0 37 = r.2.2.1 ∧ SeenM h r.2.2.2.length r.2.1 ∧ SeenM h 0 x0 ∧ (∀ q, q < 12 → hI h 262 0 q = hI σ 262 0 q + nI (usN q r.2.2.2)) ∧ (∀ u ∈ r.2.2.2, u < 12) ∧ r.2.2.2.length ≤ 169 ∧ FrM SRes σ h
abbrev rsL (p l : Nat) (m o : Int32) (e x : Option AV) : List (Option AV) := [some (vr 233 0), some (vi (nI p)), some (vi (nI l)), some (vi m), some (vi o), e, x]
theorem SeenM_cong {h h' : Hp} {j : Nat} {y : Pl} (e : ∀ k, 14 * j ≤ k → k < 14 * j + 14 → hI h' 261 0 k = hI h 261 0 k) (q : SeenM h j y) : SeenM h' j y := ⟨⟨by rw [e _ (by omega) (by omega)]; exact q.1.1, by rw [e _ (by omega) (by omega)]; exact q.1.2.1, RowA_cong q.1.2.2 fun k _ _ => e k (by omega) (by omega)⟩, q.2⟩
theorem RowP_mv {u v : Nat → Int32} {o t p q : Nat} {w : List Nat} (h0 : v t = nI p) (h : ∀ k, 1 ≤ k → k < 14 → v (t + k) = u (o + k)) (k : RowP u o q w) : RowP v t p w := by
  refine ⟨h0, by rw [h 1 (by omega) (by omega)]; exact k.2.1, ?_, fun i hi => ?_⟩
  · rw [h 2 (by omega) (by omega)]
    exact k.2.2.1
  · rw [show t + 2 + 1 + i = t + (3 + i) by omega, h (3 + i) (by omega) (by omega), show o + (3 + i) = o + 2 + 1 + i by omega]
    exact k.2.2.2 i hi
section
variable {σ : Hp} {P : Nat → List Line} {X : Nat → XA} {rs : List (Pl × Pl)} {Q : Option AV → Hp → Prop} {d : Nat} {p l : Nat} {m o : Int32} {x0 : Pl}
theorem RmI_go {h : Hp} {seen : List Pl} {us : List Nat} {x y : Pl} {r : Nat} {b : Bool} (k : RmI σ h x0 rs seen us x) (hr : r < 12) (hx : x ∉ seen) (gy : gPl y) (hA : y.2 ∈ plA x0 rs) (hrow : RowP (goG h r seen.length b) 0 y.1 (txO y.2)) : RmI σ (setI (setI (arrI h 261 0 (goRow (hI h 261 0) (14 * seen.length + 14) (goG h r seen.length b))) 262 0 r (hI h 262 0 r + nI 1)) 233 0 35 (nI (seen.length + 1))) x0 rs (seen ++ [x]) (us ++ [r]) y := by
  obtain ⟨k1, k2, k3, k4, k5, k6, k7, k8, k9, k0⟩ := k
  have e261 : hI (setI (setI (arrI h 261 0 (goRow (hI h 261 0) (14 * seen.length + 14) (goG h r seen.length b))) 262 0 r (hI h 262 0 r + nI 1)) 233 0 35 (nI (seen.length + 1))) 261 0 = goRow (hI h 261 0) (14 * seen.length + 14) (goG h r seen.length b) := by
    simp (disch := omega) only [hI_f, hI_a]
  have lsn : (seen ++ [x]).length = seen.length + 1 := by rw [List.length_append]; rfl
  refine ⟨?_, ?_, ?_, ?_, ?_, fun q hq => ?_, fun u hu => ?_, nodup_sn k8 hx, fun z hz => ?_, ?_⟩
  · simp (disch := omega) only [hI_s, hI_k, hI_f, hI_af]
    exact k1
  · rw [lsn, hI_s]
  · rw [List.length_append, List.length_append, k3]
    rfl
  · refine All_snoc k4 (fun j z hj q => SeenM_cong (fun k a1 a2 => ?_) q) ⟨?_, gy⟩
    · rw [e261]
      unfold goRow
      rw [if_neg (by omega)]
    · rw [e261, lsn]
      refine RowP_mv (u := goG h r seen.length b) (o := 0) ?_ (fun k a1 a2 => ?_) hrow
      · unfold goRow
        rw [if_pos (by omega), show 14 * (seen.length + 1) - (14 * seen.length + 14) = 0 by omega]
        exact hrow.1
      · unfold goRow
        rw [if_pos (by omega), show 14 * (seen.length + 1) + k - (14 * seen.length + 14) = 0 + k by omega]
  · rw [List.getElem?_append_left (by omega)]
    exact k5
  · rw [usN_sn]
    by_cases c : q = r
    · subst c
      simp (disch := omega) only [hI_s, hI_k, hI_f, hI_af]
      rw [if_pos True.intro, k6 q hq, Int32.add_assoc, addN]
    · have c2 : ¬ r = q := fun w => c w.symm
      simp (disch := omega) only [hI_s, hI_k, hI_f, hI_af]
      rw [if_neg c2, k6 q hq]
      rfl
  · rcases List.mem_append.mp hu with w | w
    · exact k7 u w
    · cases w with
      | head => exact hr
      | tail _ w => cases w
  · rcases List.mem_append.mp hz with w | w
    · exact k9 z w
    · cases w with
      | head => exact hA
      | tail _ w => cases w
  · refine ((FrM.aI k0 fun k hk => absurd (Or.inl rfl) hk).sI (f := 262) (Or.inr (Or.inl rfl)) _).sI (f := 233) (Or.inr (Or.inr ⟨rfl, Or.inl rfl⟩)) _
set_option maxRecDepth 6000 in
/-- how is told: the loop ends -/
theorem s_rsEnd {h : Hp} {n : Nat} (hn : n < 5) (h36 : hI h 233 0 36 = nI n) (hB : h.1 = σ.1) (hq : Q none h) : Sat true (d + 8) 177 σ.1 Q 97 (rsL p l m o none none) [] h := by
  refine wp_ok (cut := [97, 136]) ma_177 rfl 20 _ _ _ _ ?_
  show ((¬ (hI h 233 0 36) = (-6) → (Q none h ∧ h.1 = σ.1)) ∧ ((hI h 233 0 36) = (-6) → CalI true (d + 7) 173 [vr 233 0] h σ.1 (fun x2 s1 => ((x2 = 0 → Sat true (d + 8) 177 σ.1 Q 136 [some (vr 233 0), some (vi (nI p)), some (vi (nI l)), some (vi m), some (vi o), some (vi ((nI 14) * (hI h 233 0 35))), none] [] s1) ∧ (¬ x2 = 0 → Sat true (d + 8) 177 σ.1 Q 97 [some (vr 233 0), some (vi (nI p)), some (vi (nI l)), some (vi m), some (vi o), some (vi ((nI 14) * (hI h 233 0 35))), none] [] (setI (setI s1 233 0 36 (nI 2)) 233 0 37 (-6)))))))
  rw [h36]
  refine ⟨fun _ => ⟨hq, hB⟩, fun g => ?_⟩
  have := congrArg Int32.toInt g
  rw [nI_toInt (by omega)] at this
  have e2 : (-6 : Int32).toInt = -6 := by decide
  omega
theorem RmC_of {h h' : Hp} {seen : List Pl} {us : List Nat} {x : Pl} {n : Nat} {hd : Int32} (k : RmI σ h x0 rs seen us x) (hl : seen.length ≤ 169) (e36 : hI h' 233 0 36 = nI n) (e35 : hI h' 233 0 35 = hI h 233 0 35) (e37 : hI h' 233 0 37 = hd) (e261 : hI h' 261 0 = hI h 261 0) (e262 : hI h' 262 0 = hI h 262 0) (hf : FrM SRes σ h') : RmC σ h' x0 (n, x, hd, us) := by
  obtain ⟨k1, k2, k3, k4, k5, k6, k7, k8, k9, k0⟩ := k
  have k3 : us.length = seen.length := k3
  refine ⟨e36, by rw [e35, k2, ← k3], e37, SeenM_cong (fun k _ _ => by rw [e261]) (k4 _ _ ?_), SeenM_cong (fun k _ _ => by rw [e261]) (k4 0 _ k5), fun q hq => by rw [e262]; exact k6 q hq, k7, by show us.length ≤ 169; omega, hf⟩
  show (seen ++ [x])[us.length]? = some x
  rw [k3, List.getElem?_append_right (Nat.le_refl _), Nat.sub_self]
  rfl
end
