/-! cells that are made: what holds while an object is built -/
def NZ (f k : Nat) : Prop := (f = 21 ∧ k = 0) ∨ f = 225 ∨ f = 229 ∨ (f = 235 ∧ 1920 ≤ k ∧ k < 1932)
def Zr (h : Hp) : Prop := ∀ f p k, f ≠ 0 → ¬ NZ f k → hI h f p k = 0
def Ot (N F p : Nat) (σ h : Hp) : Prop := ∀ f q, ¬ (F ≤ f ∧ f ≤ F + N ∧ q = p) → hI h f q = hI σ f q ∧ hL h f q = hL σ f q ∧ hR h f q = hR σ f q
def MkI (N : Nat) (σ h : Hp) (F p : Nat) (dn : List (Nat × Nat)) (c s : Nat) : Prop := Ot N F p σ h ∧ (Zr σ → Zr h) ∧ (∀ q ∈ dn, hR h F p q.1 = some (q.2, p)) ∧ h.1 = (σ.1.1 + c, σ.1.2.1 + s, σ.1.2.2)
theorem z_1 (h : Hp) (f p n : Nat) : (zap h f p n).1 = (h.1.1 + 1, h.1.2.1 + n, h.1.2.2) := rfl
theorem hI_z (h : Hp) (f p n f' p' k : Nat) : hI (zap h f p n) f' p' k = if f' = f ∧ p' = p then 0 else hI h f' p' k := rfl
theorem hL_z (h : Hp) (f p n f' p' k : Nat) : hL (zap h f p n) f' p' k = if f' = f ∧ p' = p then 0 else hL h f' p' k := rfl
theorem hR_z (h : Hp) (f p n f' p' k : Nat) : hR (zap h f p n) f' p' k = if f' = f ∧ p' = p then none else hR h f' p' k := rfl
theorem hR_r (h : Hp) (f p k : Nat) (x : Option (Nat × Nat)) (f' p' k' : Nat) : hR (setR h f p k x) f' p' k' = if f' = f ∧ p' = p ∧ k' = k then x else hR h f' p' k' := rfl
theorem mk_0 {N : Nat} (σ : Hp) (F p : Nat) : MkI N σ σ F p [] 0 0 := ⟨fun _ _ _ => ⟨rfl, rfl, rfl⟩, fun h => h, fun q hq => (by cases hq), rfl⟩
theorem mk_z {N : Nat} {σ h : Hp} {F p : Nat} {dn : List (Nat × Nat)} {c s : Nat} (k : MkI N σ h F p dn c s) {g : Nat} (h1 : F < g) (h2 : g ≤ F + N) (n : Nat) : MkI N σ (zap h g p n) F p dn (c + 1) (s + n) := by
  obtain ⟨k1, k2, k3, k4⟩ := k
  refine ⟨fun f q w => ?_, fun z f q i hf hn => ?_, fun q hq => ?_, ?_⟩
  · obtain ⟨a1, a2, a3⟩ := k1 f q w
    have n : ¬ (f = g ∧ q = p) := fun e => w (by omega)
    refine ⟨?_, ?_, ?_⟩
    · funext i
      rw [hI_z, if_neg n, a1]
    · funext i
      rw [hL_z, if_neg n, a2]
    · funext i
      rw [hR_z, if_neg n, a3]
  · rw [hI_z]
    split
    · rfl
    · exact k2 z f q i hf hn
  · rw [hR_z, if_neg (by omega)]
    exact k3 q hq
  · rw [z_1, k4]
    show (σ.1.1 + c + 1, σ.1.2.1 + s + n, σ.1.2.2) = _
    rw [Nat.add_assoc, Nat.add_assoc]
theorem mk_R {N : Nat} {σ h : Hp} {F p : Nat} {dn : List (Nat × Nat)} {c s : Nat} (k : MkI N σ h F p dn c s) {i g : Nat} (hi : ∀ q ∈ dn, q.1 ≠ i) : MkI N σ (setR h F p i (some (g, p))) F p (dn ++ [(i, g)]) c s := by
  obtain ⟨k1, k2, k3, k4⟩ := k
  refine ⟨fun f q w => ?_, fun z f q j hf hn => k2 z f q j hf hn, fun q hq => ?_, k4⟩
  · obtain ⟨a1, a2, a3⟩ := k1 f q w
    refine ⟨a1, a2, ?_⟩
    funext j
    rw [hR_r, if_neg (fun e => w (by omega)), a3]
  · rw [hR_r]
    rcases List.mem_append.mp hq with w | w
    · rw [if_neg (fun e => hi q w e.2.2)]
      exact k3 q w
    · cases w with
      | head => rw [if_pos ⟨rfl, rfl, rfl⟩]
      | tail _ w => cases w
theorem mk_I {N : Nat} {σ h : Hp} {F p : Nat} {dn : List (Nat × Nat)} {c s : Nat} (k : MkI N σ h F p dn c s) {i : Nat} {x : Int32} (hx : NZ F i ∨ x = 0) : MkI N σ (setI h F p i x) F p dn c s := by
  obtain ⟨k1, k2, k3, k4⟩ := k
  refine ⟨fun f q w => ?_, fun z f q j hf hn => ?_, k3, k4⟩
  · obtain ⟨a1, a2, a3⟩ := k1 f q w
    refine ⟨?_, a2, a3⟩
    rw [hI_f _ _ _ (by omega)]
    exact a1
  · show (if f = F ∧ q = p ∧ j = i then x else hI h f q j) = 0
    by_cases e : f = F ∧ q = p ∧ j = i
    · rw [if_pos e]
      rcases hx with w | w
      · rw [e.1, e.2.2] at hn
        exact absurd w hn
      · exact w
    · rw [if_neg e]
      exact k2 z f q j hf hn
theorem mk_A {N : Nat} {σ h : Hp} {F p : Nat} {dn : List (Nat × Nat)} {c s : Nat} (k : MkI N σ h F p dn c s) {g i : Nat} {x : Int32} (h1 : F < g) (h2 : g ≤ F + N) (hx : NZ g i ∨ x = 0) : MkI N σ (setI h g p i x) F p dn c s := by
  obtain ⟨k1, k2, k3, k4⟩ := k
  refine ⟨fun f q w => ?_, fun z f q j hf hn => ?_, k3, k4⟩
  · obtain ⟨a1, a2, a3⟩ := k1 f q w
    refine ⟨?_, a2, a3⟩
    rw [hI_f _ _ _ (by omega)]
    exact a1
  · show (if f = g ∧ q = p ∧ j = i then x else hI h f q j) = 0
    by_cases e : f = g ∧ q = p ∧ j = i
    · rw [if_pos e]
      rcases hx with w | w
      · rw [e.1, e.2.2] at hn
        exact absurd w hn
      · exact w
    · rw [if_neg e]
      exact k2 z f q j hf hn
theorem mk_L {N : Nat} {σ h : Hp} {F p : Nat} {dn : List (Nat × Nat)} {c s : Nat} (k : MkI N σ h F p dn c s) {i : Nat} {x : Int64} : MkI N σ (setL h F p i x) F p dn c s := by
  obtain ⟨k1, k2, k3, k4⟩ := k
  refine ⟨fun f q w => ?_, fun z f q j hf hn => k2 z f q j hf hn, k3, k4⟩
  obtain ⟨a1, a2, a3⟩ := k1 f q w
  refine ⟨a1, ?_, a3⟩
  rw [hL_f _ _ _ (by omega)]
  exact a2
def MV (d mi : Nat) (as : List AV) (σ : Hp) (B : Nat × Nat × Nat) (P : Hp → Prop) : Prop := Ev false d mi as σ B (fun r s => r = none ∧ P s)
theorem MV_of {d mi : Nat} {as : List AV} {σ : Hp} {B : Nat × Nat × Nat} {P : Hp → Prop} {me : MEnt} (hm : MT[mi]? = some me) (hl : (ent as).length ≤ me.2.2.1) (hB : leB σ.1 B) (k : ∀ Q : Option AV → Hp → Prop, (∀ h, P h → Q none h) → Sat false d mi B Q 0 (entL me.2.2.1 as) [] σ) : MV d mi as σ B P := Ev_of hm hl hB.1 hB.2 (k _ fun _ q => ⟨rfl, q⟩)
theorem cm_v {d mj : Nat} {as : List AV} {σ : Hp} {P : Hp → Prop} {B' B : Nat × Nat × Nat} {K : Hp → Prop} (c : MV d mj as σ B' P) (hB : leB B' B) (k : ∀ h, P h → h.1 = B' → K h) : CalV false d mj as σ B K := ⟨B', _, c, hB.1, hB.2, fun s q e => k s q.2 e⟩
