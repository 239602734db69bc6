/-! the layout's own facts -/
theorem fty_eq (f : Nat) : fty f = if f < 8 then 0 else if f < 18 then 2 else if f < 21 then 0 else if f < 38 then 1 else 0 := by
  simp only [fty, Bool.cond_eq_ite, Nat.blt_eq]
theorem cidx_0 (f : Nat) : cidx f 0 = f := by
  unfold cidx
  split
  · omega
  · rfl
  · rfl
theorem cidx_1 {f : Nat} (h : fty f = 1) (p : Nat) : cidx f p = f + 17 * p := by simp [cidx, h]
theorem cidx_2 {f : Nat} (h : fty f = 2) (q : Nat) : cidx f (q + 1) = 266 + 10 * q + (f - 8) := by simp [cidx, h]
theorem cidx_s {f : Nat} (h : fty f = 0) (p : Nat) : cidx f p = f := by simp [cidx, h]
theorem fty_01 {f : Nat} : fty f = 0 ∨ fty f = 1 ∧ 21 ≤ f ∧ f < 38 ∨ fty f = 2 ∧ 8 ≤ f ∧ f < 18 := by
  rw [fty_eq]
  split
  · exact Or.inl rfl
  · split
    · exact Or.inr (Or.inr ⟨rfl, by omega, by omega⟩)
    · split
      · exact Or.inl rfl
      · split
        · exact Or.inr (Or.inl ⟨rfl, by omega, by omega⟩)
        · exact Or.inl rfl
theorem fty_0 {f : Nat} (h : fty f = 0) : f < 8 ∨ 18 ≤ f ∧ f < 21 ∨ 38 ≤ f := by
  rw [fty_eq] at h
  split at h
  · omega
  · split at h
    · cases h
    · split at h
      · omega
      · split at h
        · cases h
        · omega
theorem cidx_fa (i : Nat) : cidx (fa i).1 (fa i).2 = i := by
  unfold fa
  split
  · exact cidx_0 i
  · split
    · have h1 : fty (21 + (i - 21) % 17) = 1 := by
        rw [fty_eq, if_neg (by omega), if_neg (by omega), if_neg (by omega), if_pos (by omega)]
      show cidx (21 + (i - 21) % 17) ((i - 21) / 17) = i
      rw [cidx_1 h1]; omega
    · split
      · exact cidx_0 i
      · have h1 : fty (8 + (i - 266) % 10) = 2 := by
          rw [fty_eq, if_neg (by omega), if_pos (by omega)]
        show cidx (8 + (i - 266) % 10) ((i - 266) / 10 + 1) = i
        rw [cidx_2 h1]; omega
theorem fkd_out {f : Nat} (h : 266 ≤ f) : (fkd f).1 = 99 := by
  have : fkT.length = 266 := by decide +kernel
  unfold fkd
  rw [List.getD_eq_getElem?_getD, List.getElem?_eq_none (by omega)]
  rfl
theorem fkd_in {f : Nat} (h : (fkd f).1 < 90) : f < 266 ∧ 1 ≤ f ∧ (38 ≤ f → 225 ≤ f) := by
  have h1 : f < 266 := by
    rcases Nat.lt_or_ge f 266 with q | q
    · exact q
    · rw [fkd_out q] at h; omega
  refine ⟨h1, ?_, fun h2 => ?_⟩
  · rcases Nat.eq_zero_or_pos f with q | q
    · subst q; exact absurd h (by decide)
    · exact q
  · rcases Nat.lt_or_ge f 225 with q | q
    · have := (fkB f h1).2.1 h2 q; omega
    · exact q
theorem acc_ok {md : Bool} {σ : Hp} {f p : Nat} {K : Nat → Prop} (hk : (fkd f).1 < 90) (hst : md = true → ∃ j, σ.1.1 = 266 + 10 * j) (h : acc md σ f p K) : ∃ p', K p' ∧ cidx f p = cidx f p' ∧ cidx f p' < σ.1.1 ∧ 1 ≤ cidx f p' ∧ fa (cidx f p') = (f, p') := by
  obtain ⟨k1, k2, k3⟩ := fkd_in hk
  rcases fty_01 (f := f) with t | ⟨t, b1, b2⟩ | ⟨t, b1, b2⟩
  · have e : fa f = (f, 0) := by
      unfold fa
      rcases fty_0 t with q | ⟨q, q2⟩ | q
      · rw [if_pos (by omega)]
      · rw [if_pos (by omega)]
      · have := k3 q
        rw [if_neg (by omega), if_neg (by omega), if_pos (by omega)]
    cases md with
    | true =>
      obtain ⟨j, hj⟩ := hst rfl
      have h' : K 0 := by simpa [acc, t] using h
      exact ⟨0, h', by rw [cidx_s t, cidx_s t], by rw [cidx_s t]; omega, by rw [cidx_s t]; omega, by rw [cidx_s t]; exact e⟩
    | false =>
      have h' : f < σ.1.1 ∧ K 0 := by simpa [acc, t] using h
      exact ⟨0, h'.2, by rw [cidx_s t, cidx_s t], by rw [cidx_s t]; exact h'.1, by rw [cidx_s t]; omega, by rw [cidx_s t]; exact e⟩
  · have e : p < 12 → fa (f + 17 * p) = (f, p) := by
      intro hp
      unfold fa
      rw [if_neg (by omega), if_pos (by omega)]
      refine Prod.ext ?_ ?_
      · show 21 + (f + 17 * p - 21) % 17 = f; omega
      · show (f + 17 * p - 21) / 17 = p; omega
    cases md with
    | true =>
      obtain ⟨j, hj⟩ := hst rfl
      have h' : p < 12 ∧ K p := by simpa [acc, t] using h
      exact ⟨p, h'.2, rfl, by rw [cidx_1 t]; omega, by rw [cidx_1 t]; omega, by rw [cidx_1 t]; exact e h'.1⟩
    | false =>
      have h' : p < 12 ∧ f + 17 * p < σ.1.1 ∧ K p := by simpa [acc, t] using h
      exact ⟨p, h'.2.2, rfl, by rw [cidx_1 t]; exact h'.2.1, by rw [cidx_1 t]; omega, by rw [cidx_1 t]; exact e h'.1⟩
  · have e : fa (cidx f p) = (f, p) := by
      cases p with
      | zero =>
        rw [cidx_0]; unfold fa; rw [if_pos (by omega)]
      | succ q =>
        rw [cidx_2 t]; unfold fa
        rw [if_neg (by omega), if_neg (by omega), if_neg (by omega)]
        refine Prod.ext ?_ ?_
        · show 8 + (266 + 10 * q + (f - 8) - 266) % 10 = f; omega
        · show (266 + 10 * q + (f - 8) - 266) / 10 + 1 = q + 1; omega
    have g : 1 ≤ cidx f p := by
      cases p with
      | zero => rw [cidx_0]; omega
      | succ q => rw [cidx_2 t]; omega
    cases md with
    | true =>
      obtain ⟨j, hj⟩ := hst rfl
      cases p with
      | zero =>
        have h' : K 0 := by simpa [acc, t] using h
        exact ⟨0, h', rfl, by rw [cidx_0]; omega, g, e⟩
      | succ q =>
        have h' : 266 + 10 * q < σ.1.1 ∧ K (q + 1) := by simpa [acc, t] using h
        exact ⟨q + 1, h'.2, rfl, by rw [cidx_2 t]; omega, g, e⟩
    | false =>
      have h' : cidx f p < σ.1.1 ∧ K p := by simpa [acc, t] using h
      exact ⟨p, h'.2, rfl, h'.1, g, e⟩
theorem adr_eq {z b f p p' : Nat} (hf : 1 ≤ f) (h : cidx f p = cidx f p') : adr z b (f, p) = z + cidx f p' := by
  cases f with
  | zero => omega
  | succ n => show z + cidx (n + 1) p = _; rw [h]
theorem wsl_at (md : Bool) (dT : Nat → ClassId) (z b : Nat) (σ : Hp) {i : Nat} (h : i + 1 < σ.1.1) : (wsl md dT z b σ)[i]? = some (z + (i + 1), cellE md dT z b σ (fa (i + 1))) := by
  unfold wsl
  rw [List.getElem?_map, List.getElem?_range (by omega)]
  rfl
theorem wsl_in {md : Bool} {dT : Nat → ClassId} {z b : Nat} {σ : Hp} {i : Nat} {q : Nat × va_E} (h : (wsl md dT z b σ)[i]? = some q) : i + 1 < σ.1.1 ∧ q = (z + (i + 1), cellE md dT z b σ (fa (i + 1))) := by
  have hl : i < σ.1.1 - 1 := by
    have := (List.getElem?_eq_some_iff.mp h).1
    simpa [wsl] using this
  have h1 : i + 1 < σ.1.1 := by omega
  exact ⟨h1, (Option.some.inj ((wsl_at md dT z b σ h1).symm.trans h)).symm⟩
theorem wsl_get (md : Bool) (dT : Nat → ClassId) (z b : Nat) (σ : Hp) {f p : Nat} (hl : cidx f p < σ.1.1) (h1 : 1 ≤ cidx f p) (hf : fa (cidx f p) = (f, p)) : (wsl md dT z b σ)[cidx f p - 1]? = some (z + cidx f p, cellE md dT z b σ (f, p)) := by
  have e : cidx f p - 1 + 1 = cidx f p := by omega
  rw [wsl_at md dT z b σ (by omega), e, hf]
theorem wsl_D (md : Bool) (dT : Nat → ClassId) (z b : Nat) (σ : Hp) : va_D (fun q => z < q) (wsl md dT z b σ) := by
  refine ⟨fun i j x y hx hy e => ?_, fun k q hq => ?_⟩
  · obtain ⟨-, rfl⟩ := wsl_in hx
    obtain ⟨-, rfl⟩ := wsl_in hy
    have e : z + (i + 1) = z + (j + 1) := e
    omega
  · obtain ⟨-, rfl⟩ := wsl_in hq
    show z < z + (k + 1)
    omega
theorem HI_moved {md : Bool} {D : va_G} {dT : Nat → ClassId} {z b : Nat} {σ : Hp} {u U : State} {H : Heap} (hvm : u.vm.Alike U.vm) (h : HI md D dT z b σ u H) : HI md D dT z b σ U H := by
  obtain ⟨h1, h2, h3, h4, h5, h6⟩ := h
  exact ⟨h1.moved hvm, h2, h3, h4, h5.moved hvm, h6⟩
/-- a write to one cell -/
theorem HI_write {md : Bool} {D : va_G} {dT : Nat → ClassId} {z b : Nat} {σ σ' : Hp} {s : State} {H H1 : Heap} {f p : Nat} (h : HI md D dT z b σ s H) (hl : cidx f p < σ.1.1) (h1 : 1 ≤ cidx f p) (hf : fa (cidx f p) = (f, p)) (e1 : σ'.1 = σ.1)
    (hc : ∀ a : Nat × Nat, a ≠ (f, p) → cellE md dT z b σ' a = cellE md dT z b σ a) (hch : ∀ f p k, (fkd f).1 = 21 → fits .char (.int (hI σ' f p k)) = true) (hx : hI σ' 0 0 = hI σ 0 0) (z1 : H1.size = H.size) (oq : ∀ q : Nat, q ≠ z + cidx f p → H1[q]? = H[q]?)
    (he : va_at D clsW (z + cidx f p, cellE md dT z b σ' (f, p)) H1) : HI md D dT z b σ' s H1 := by
  obtain ⟨g1, g2, g3, g4, g5, g6, g7, g8⟩ := h
  refine ⟨g1, fun i q hq => ?_, by rw [z1, e1]; exact g3, hch, ?_, g6, by rw [e1]; exact g7, fun hm => by rw [e1]; exact g8 hm⟩
  · obtain ⟨hi, rfl⟩ := wsl_in hq
    rw [e1] at hi
    by_cases ha : i + 1 = cidx f p
    · rw [ha, hf]; exact he
    · have hn : fa (i + 1) ≠ (f, p) := by
        intro hh
        have := cidx_fa (i + 1)
        rw [hh] at this
        exact ha this.symm
      rw [hc _ hn]
      have hq0 := g2 i _ (wsl_at md dT z b σ hi)
      refine hq0.kept (oq _ ?_)
      show z + (i + 1) ≠ z + cidx f p
      omega
  · rw [e1, hx]
    exact g5.kept (oq b (by omega))
theorem cellE_congr {md : Bool} {dT : Nat → ClassId} {z b : Nat} {σ σ' : Hp} {a : Nat × Nat} (h1 : hI σ' a.1 a.2 = hI σ a.1 a.2) (h2 : hL σ' a.1 a.2 = hL σ a.1 a.2) (h3 : hR σ' a.1 a.2 = hR σ a.1 a.2) : cellE md dT z b σ' a = cellE md dT z b σ a := by
  have hr : rdr md σ' a.1 a.2 = rdr md σ a.1 a.2 := by
    funext k
    unfold rdr
    rw [h3]
  have hf : ∀ ci, rdf md σ' ci a.1 a.2 = rdf md σ ci a.1 a.2 := by
    intro ci
    funext k
    unfold rdf
    rw [h1, h2, hr]
  unfold cellE
  rw [h1, h2, hr, hf]
theorem hI_setI_ne {σ : Hp} {f p k : Nat} {x : Int32} {a : Nat × Nat} (h : a ≠ (f, p)) : hI (setI σ f p k x) a.1 a.2 = hI σ a.1 a.2 := by
  funext j
  show (if a.1 = f ∧ a.2 = p ∧ j = k then x else σ.2.1 a.1 a.2 j) = _
  rw [if_neg]
  · rfl
  · rintro ⟨q1, q2, -⟩
    exact h (Prod.ext q1 q2)
theorem hL_setL_ne {σ : Hp} {f p k : Nat} {x : Int64} {a : Nat × Nat} (h : a ≠ (f, p)) : hL (setL σ f p k x) a.1 a.2 = hL σ a.1 a.2 := by
  funext j
  show (if a.1 = f ∧ a.2 = p ∧ j = k then x else σ.2.2.1 a.1 a.2 j) = _
  rw [if_neg]
  · rfl
  · rintro ⟨q1, q2, -⟩
    exact h (Prod.ext q1 q2)
theorem hR_setR_ne {σ : Hp} {f p k : Nat} {x : Option (Nat × Nat)} {a : Nat × Nat} (h : a ≠ (f, p)) : hR (setR σ f p k x) a.1 a.2 = hR σ a.1 a.2 := by
  funext j
  show (if a.1 = f ∧ a.2 = p ∧ j = k then x else σ.2.2.2 a.1 a.2 j) = _
  rw [if_neg]
  · rfl
  · rintro ⟨q1, q2, -⟩
    exact h (Prod.ext q1 q2)
theorem hI_setI (σ : Hp) (f p k : Nat) (x : Int32) : hI (setI σ f p k x) f p = upd (hI σ f p) k x := by
  funext j
  show (if f = f ∧ p = p ∧ j = k then x else σ.2.1 f p j) = if j = k then x else σ.2.1 f p j
  simp only [true_and]
theorem hL_setL (σ : Hp) (f p k : Nat) (x : Int64) : hL (setL σ f p k x) f p = vp_updL (hL σ f p) k x := by
  funext j
  show (if f = f ∧ p = p ∧ j = k then x else σ.2.2.1 f p j) = if j = k then x else σ.2.2.1 f p j
  simp only [true_and]
theorem hR_setR (σ : Hp) (f p k : Nat) (x : Option (Nat × Nat)) : hR (setR σ f p k x) f p = va_up (hR σ f p) k x := by
  funext j
  show (if f = f ∧ p = p ∧ j = k then x else σ.2.2.2 f p j) = if j = k then x else σ.2.2.2 f p j
  simp only [true_and]
theorem cell_o {md : Bool} {dT : Nat → ClassId} {z b : Nat} {σ : Hp} {f p : Nat} (h : (fkd f).1 < 20) : cellE md dT z b σ (f, p) = .inr ((fkd f).1, (List.range (fkd f).2).map fun j => cvv z b (rdf md σ (fkd f).1 f p j)) := by
  unfold cellE
  rw [if_pos h]
theorem cell_i {md : Bool} {dT : Nat → ClassId} {z b : Nat} {σ : Hp} {f p k : Nat} (h : (fkd f).1 = k) (h2 : k = 20 ∨ k = 21) : cellE md dT z b σ (f, p) = .inl (dT k, (fkd f).2, .inl (hI σ f p)) := by
  unfold cellE
  show (if (fkd f).1 < 20 then _ else _) = _
  rw [if_neg (by omega), if_neg (by show ¬ (fkd f).1 = 22; omega), if_pos (by show (fkd f).1 < 22; omega), h]
theorem cell_l {md : Bool} {dT : Nat → ClassId} {z b : Nat} {σ : Hp} {f p : Nat} (h : (fkd f).1 = 22) : cellE md dT z b σ (f, p) = .inl (dT 22, (fkd f).2, .inr (.inl (hL σ f p))) := by
  unfold cellE
  show (if (fkd f).1 < 20 then _ else _) = _
  rw [if_neg (by omega), if_pos h, h]
theorem cell_r {md : Bool} {dT : Nat → ClassId} {z b : Nat} {σ : Hp} {f p : Nat} (h : 22 < (fkd f).1) : cellE md dT z b σ (f, p) = .inl (dT (fkd f).1, (fkd f).2, .inr (.inr (.inr (.inr fun j => (rdr md σ f p j).map (adr z b))))) := by
  unfold cellE
  show (if (fkd f).1 < 20 then _ else _) = _
  rw [if_neg (by omega), if_neg (by show ¬ (fkd f).1 = 22; omega), if_neg (by show ¬ (fkd f).1 < 22; omega)]
