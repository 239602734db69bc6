/-! a way does not go on for ever -/
def posA (a : Option Anc) : List (Option Anc) → Nat
  | [] => 0
  | b :: r => if b = a then 0 else posA a r + 1
theorem posA_lt {a : Option Anc} : ∀ {l : List (Option Anc)}, a ∈ l → posA a l < l.length := by
  intro l
  induction l with
  | nil => intro h; cases h
  | cons b r ih =>
    intro h
    unfold posA
    by_cases e : b = a
    · rw [if_pos e, List.length_cons]; omega
    · rw [if_neg e, List.length_cons]
      have := ih (by
        cases h with
        | head => exact absurd rfl e
        | tail _ w => exact w)
      omega
theorem posA_inj {a b : Option Anc} : ∀ {l : List (Option Anc)}, a ∈ l → b ∈ l → posA a l = posA b l → a = b := by
  intro l
  induction l with
  | nil => intro h; cases h
  | cons c r ih =>
    intro ha hb h
    unfold posA at h
    by_cases e : c = a
    · rw [if_pos e] at h
      by_cases e2 : c = b
      · rw [← e, ← e2]
      · rw [if_neg e2] at h
        omega
    · rw [if_neg e] at h
      by_cases e2 : c = b
      · rw [if_pos e2] at h
        omega
      · rw [if_neg e2] at h
        exact ih (by
          cases ha with
          | head => exact absurd rfl e
          | tail _ w => exact w) (by
          cases hb with
          | head => exact absurd rfl e2
          | tail _ w => exact w) (by omega)
/-- the places that a way can meet -/
def plA (x0 : Pl) (rs : List (Pl × Pl)) : List (Option Anc) := x0.2 :: none :: rs.map fun y => y.2.2
theorem rtNext_A {P : Nat → List Line} {x0 : Pl} {rs : List (Pl × Pl)} {x : Pl} {k : Nat} {y : Pl} (h : rtNext P rs x = some (k, y)) (hx : x.2 ∈ plA x0 rs) : y.2 ∈ plA x0 rs := by
  have mem : ∀ {k : Nat} {z y : Pl}, rs[k]? = some (z, y) → y.2 ∈ plA x0 rs := fun {k z y} e => List.mem_cons_of_mem _ (List.mem_cons_of_mem _ (List.mem_map.mpr ⟨(z, y), List.mem_of_getElem? e, rfl⟩))
  unfold rtNext at h
  cases e : rdO x rs 0 with
  | some r =>
    rw [e] at h
    obtain ⟨a, b⟩ := r
    cases h
    exact mem (rdO_0 e)
  | none =>
    rw [e] at h
    have h2 : (if P x.1 = [] then (match rdO (x.1, none) rs 0 with
      | none => none
      | some r => some (r.1, (r.2.1, if r.2.2 = none then x.2 else r.2.2))) else none) = some (k, y) := h
    by_cases c : P x.1 = []
    · rw [if_pos c] at h2
      cases e2 : rdO (x.1, none) rs 0 with
      | none => rw [e2] at h2; cases h2
      | some r =>
        rw [e2] at h2
        obtain ⟨a, b⟩ := r
        cases h2
        show (if b.2 = none then x.2 else b.2) ∈ plA x0 rs
        by_cases c2 : b.2 = none
        · rw [if_pos c2]; exact hx
        · rw [if_neg c2]; exact mem (rdO_0 e2)
    · rw [if_neg c] at h2
      cases h2
theorem seen_len {x0 : Pl} {rs : List (Pl × Pl)} {seen : List Pl} (hr : rs.length ≤ 12) (hn : seen.Nodup) (ha : ∀ y ∈ seen, y.1 < 12 ∧ y.2 ∈ plA x0 rs) : seen.length ≤ 168 := by
  have pl : (plA x0 rs).length ≤ 14 := by
    unfold plA
    rw [List.length_cons, List.length_cons, List.length_map]
    omega
  refine fb_holes 168 seen.length (fun i => match seen[i]? with
    | none => 0
    | some y => 14 * y.1 + posA y.2 (plA x0 rs)) (fun i hi => ?_) (fun i j hij hj e => ?_)
  · rw [List.getElem?_eq_getElem hi]
    have := ha _ (List.getElem_mem hi)
    have := posA_lt this.2
    show 14 * seen[i].1 + posA seen[i].2 (plA x0 rs) < 168
    omega
  · have hi : i < seen.length := by omega
    have e : (match seen[i]? with
      | none => 0
      | some y => 14 * y.1 + posA y.2 (plA x0 rs)) = (match seen[j]? with
      | none => 0
      | some y => 14 * y.1 + posA y.2 (plA x0 rs)) := e
    rw [List.getElem?_eq_getElem hi, List.getElem?_eq_getElem hj] at e
    have e : 14 * seen[i].1 + posA seen[i].2 (plA x0 rs) = 14 * seen[j].1 + posA seen[j].2 (plA x0 rs) := e
    have a1 := ha _ (List.getElem_mem hi)
    have a2 := ha _ (List.getElem_mem hj)
    have b1 := posA_lt a1.2
    have b2 := posA_lt a2.2
    have e1 : seen[i].1 = seen[j].1 := by omega
    have e2 : posA seen[i].2 (plA x0 rs) = posA seen[j].2 (plA x0 rs) := by omega
    have e3 : seen[i] = seen[j] := Prod.ext e1 (posA_inj a1.2 a2.2 e2)
    have := (List.getElem_inj hn).mp e3
    omega
theorem nodup_sn {seen : List Pl} {x : Pl} (h : seen.Nodup) (hx : x ∉ seen) : (seen ++ [x]).Nodup := by
  refine List.nodup_append.mpr ⟨h, List.nodup_cons.mpr ⟨fun w => (by cases w), List.nodup_nil⟩, fun a ha b hb e => ?_⟩
  cases hb with
  | head => exact hx (e ▸ ha)
  | tail _ w => cases w
