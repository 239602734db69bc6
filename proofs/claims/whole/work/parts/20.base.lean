/-! contracts with a known answer and a known heap behind them -/
def bI (b : Bool) : Int32 := if b then 1 else 0
theorem bI_0 {b : Bool} : bI b = 0 ↔ b = false := by cases b <;> decide
theorem bI_n {b : Bool} : ¬ bI b = 0 ↔ b = true := by cases b <;> decide
theorem bI_01 (b : Bool) : bI b = 0 ∨ bI b = 1 := by cases b <;> decide
def EI (d mi : Nat) (as : List AV) (σ : Hp) (v : Int32) (h : Hp) : Prop := Ev true d mi as σ σ.1 (fun r s => r = some (vi v) ∧ s = h)
def EL (d mi : Nat) (as : List AV) (σ : Hp) (v : Int64) (h : Hp) : Prop := Ev true d mi as σ σ.1 (fun r s => r = some (vl v) ∧ s = h)
def EV (d mi : Nat) (as : List AV) (σ : Hp) (h : Hp) : Prop := Ev true d mi as σ σ.1 (fun r s => r = none ∧ s = h)
theorem EI_of {d mi : Nat} {as : List AV} {σ h : Hp} {v : Int32} {me : MEnt} (hm : MT[mi]? = some me) (hl : (ent as).length ≤ me.2.2.1) (k : ∀ Q : Option AV → Hp → Prop, Q (some (vi v)) h → Sat true d mi σ.1 Q 0 (entL me.2.2.1 as) [] σ) : EI d mi as σ v h := Ev_of hm hl (Nat.le_refl _) (Nat.le_refl _) (k _ ⟨rfl, rfl⟩)
theorem EL_of {d mi : Nat} {as : List AV} {σ h : Hp} {v : Int64} {me : MEnt} (hm : MT[mi]? = some me) (hl : (ent as).length ≤ me.2.2.1) (k : ∀ Q : Option AV → Hp → Prop, Q (some (vl v)) h → Sat true d mi σ.1 Q 0 (entL me.2.2.1 as) [] σ) : EL d mi as σ v h := Ev_of hm hl (Nat.le_refl _) (Nat.le_refl _) (k _ ⟨rfl, rfl⟩)
theorem EV_of {d mi : Nat} {as : List AV} {σ h : Hp} {me : MEnt} (hm : MT[mi]? = some me) (hl : (ent as).length ≤ me.2.2.1) (k : ∀ Q : Option AV → Hp → Prop, Q none h → Sat true d mi σ.1 Q 0 (entL me.2.2.1 as) [] σ) : EV d mi as σ h := Ev_of hm hl (Nat.le_refl _) (Nat.le_refl _) (k _ ⟨rfl, rfl⟩)
theorem cal_i {d mj : Nat} {as : List AV} {σ h : Hp} {v : Int32} {B : Nat × Nat × Nat} {K : Int32 → Hp → Prop} (c : EI d mj as σ v h) (hB : σ.1 = B) (k : K v h) : CalI true d mj as σ B K := ⟨σ.1, _, c, by rw [hB]; exact Nat.le_refl _, by rw [hB]; exact Nat.le_refl _, fun x s q _ => by
  obtain ⟨q1, q2⟩ := q
  cases q1
  rw [q2]
  exact k⟩
theorem cal_l {d mj : Nat} {as : List AV} {σ h : Hp} {v : Int64} {B : Nat × Nat × Nat} {K : Int64 → Hp → Prop} (c : EL d mj as σ v h) (hB : σ.1 = B) (k : K v h) : CalL true d mj as σ B K := ⟨σ.1, _, c, by rw [hB]; exact Nat.le_refl _, by rw [hB]; exact Nat.le_refl _, fun x s q _ => by
  obtain ⟨q1, q2⟩ := q
  cases q1
  rw [q2]
  exact k⟩
theorem cal_v {d mj : Nat} {as : List AV} {σ h : Hp} {B : Nat × Nat × Nat} {K : Hp → Prop} (c : EV d mj as σ h) (hB : σ.1 = B) (k : K h) : CalV true d mj as σ B K := ⟨σ.1, _, c, by rw [hB]; exact Nat.le_refl _, by rw [hB]; exact Nat.le_refl _, fun s q _ => by
  rw [q.2]
  exact k⟩
theorem brI {b : Bool} {A C : Prop} (h0 : b = false → A) (h1 : b = true → C) : (bI b = 0 → A) ∧ (¬ bI b = 0 → C) := ⟨fun q => h0 (bI_0.mp q), fun q => h1 (bI_n.mp q)⟩
theorem brN {b : Bool} {A C : Prop} (h1 : b = true → A) (h0 : b = false → C) : (¬ bI b = 0 → A) ∧ (bI b = 0 → C) := ⟨fun q => h1 (bI_n.mp q), fun q => h0 (bI_0.mp q)⟩
/-- heaps -/
theorem setI_setI (σ : Hp) (f p k : Nat) (x y : Int32) : setI (setI σ f p k x) f p k y = setI σ f p k y := by
  unfold setI
  refine Prod.ext rfl (Prod.ext ?_ rfl)
  funext f' p' k'
  show (if f' = f ∧ p' = p ∧ k' = k then y else if f' = f ∧ p' = p ∧ k' = k then x else σ.2.1 f' p' k') = if f' = f ∧ p' = p ∧ k' = k then y else σ.2.1 f' p' k'
  split <;> rfl
theorem setI_self (σ : Hp) (f p k : Nat) : setI σ f p k (hI σ f p k) = σ := by
  unfold setI
  refine Prod.ext rfl (Prod.ext ?_ rfl)
  funext f' p' k'
  show (if f' = f ∧ p' = p ∧ k' = k then σ.2.1 f p k else σ.2.1 f' p' k') = σ.2.1 f' p' k'
  split
  · rename_i h; rw [h.1, h.2.1, h.2.2]
  · rfl
/-- numbers -/
theorem ix {n : Nat} (h : n < 2147483648) : (nI n).toNatClampNeg = n := nI_clamp h
theorem inb {i n : Nat} (h : i < n) (hn : n < 2147483648) : vp_in (nI i) n := vp_in_nI h hn
theorem leN {a b : Nat} (ha : a < 2147483648) (hb : b < 2147483648) : nI a ≤ nI b ↔ a ≤ b := nI_leI ha hb
theorem ltN {a b : Nat} (ha : a < 2147483648) (hb : b < 2147483648) : nI a < nI b ↔ a < b := nI_ltI ha hb
theorem eqN {a b : Nat} (ha : a < 2147483648) (hb : b < 2147483648) : nI a = nI b ↔ a = b := nI_eq ha hb
theorem addN (a b : Nat) : nI a + nI b = nI (a + b) := nI_add a b
theorem subN {a b : Nat} (h : b ≤ a) : nI a - nI b = nI (a - b) := pk_sub h
theorem mulN (a b : Nat) : nI a * nI b = nI (a * b) := pk_mul a b
theorem br_le {a b : Nat} {A C : Prop} (ha : a < 2147483648) (hb : b < 2147483648) (h1 : a ≤ b → A) (h0 : b < a → C) : (nI a ≤ nI b → A) ∧ (¬ nI a ≤ nI b → C) := ⟨fun q => h1 ((leN ha hb).mp q), fun q => h0 (Nat.not_le.mp fun w => q ((leN ha hb).mpr w))⟩
theorem br_lt {a b : Nat} {A C : Prop} (ha : a < 2147483648) (hb : b < 2147483648) (h1 : a < b → A) (h0 : b ≤ a → C) : (nI a < nI b → A) ∧ (¬ nI a < nI b → C) := ⟨fun q => h1 ((ltN ha hb).mp q), fun q => h0 (Nat.not_lt.mp fun w => q ((ltN ha hb).mpr w))⟩
theorem br_eq {a b : Nat} {A C : Prop} (ha : a < 2147483648) (hb : b < 2147483648) (h1 : a = b → A) (h0 : a ≠ b → C) : (nI a = nI b → A) ∧ (¬ nI a = nI b → C) := ⟨fun q => h1 ((eqN ha hb).mp q), fun q => h0 fun w => q ((eqN ha hb).mpr w)⟩
theorem br_ne {a b : Nat} {A C : Prop} (ha : a < 2147483648) (hb : b < 2147483648) (h1 : a ≠ b → A) (h0 : a = b → C) : (¬ nI a = nI b → A) ∧ (nI a = nI b → C) := ⟨fun q => h1 fun w => q ((eqN ha hb).mpr w), fun q => h0 ((eqN ha hb).mp q)⟩
theorem b_f {A C : Prop} (a : A) : (bI false = 0 → A) ∧ (¬ bI false = 0 → C) := ⟨fun _ => a, fun h => absurd rfl h⟩
theorem b_t {A C : Prop} (a : C) : (bI true = 0 → A) ∧ (¬ bI true = 0 → C) := ⟨fun h => absurd h (by decide), fun _ => a⟩
theorem b_f' {A C : Prop} (a : C) : (¬ bI false = 0 → A) ∧ (bI false = 0 → C) := ⟨fun h => absurd rfl h, fun _ => a⟩
theorem b_t' {A C : Prop} (a : A) : (¬ bI true = 0 → A) ∧ (bI true = 0 → C) := ⟨fun _ => a, fun h => absurd h (by decide)⟩
theorem setI_comm (σ : Hp) {f p k f2 p2 k2 : Nat} (x y : Int32) (h : f ≠ f2 ∨ p ≠ p2 ∨ k ≠ k2) : setI (setI σ f p k x) f2 p2 k2 y = setI (setI σ f2 p2 k2 y) f p k x := by
  unfold setI
  refine Prod.ext rfl (Prod.ext ?_ rfl)
  funext f' p' k'
  show (if f' = f2 ∧ p' = p2 ∧ k' = k2 then y else if f' = f ∧ p' = p ∧ k' = k then x else σ.2.1 f' p' k') = if f' = f ∧ p' = p ∧ k' = k then x else if f' = f2 ∧ p' = p2 ∧ k' = k2 then y else σ.2.1 f' p' k'
  by_cases a : f' = f2 ∧ p' = p2 ∧ k' = k2
  · rw [if_pos a]
    by_cases b : f' = f ∧ p' = p ∧ k' = k
    · exfalso; omega
    · rw [if_neg b, if_pos a]
  · rw [if_neg a]
    by_cases b : f' = f ∧ p' = p ∧ k' = k
    · rw [if_pos b, if_pos b]
    · rw [if_neg b, if_neg b, if_neg a]
/-- a whole row of ints -/
def arrI (σ : Hp) (f p : Nat) (g : Nat → Int32) : Hp := (σ.1, (fun f' p' k' => if f' = f ∧ p' = p then g k' else σ.2.1 f' p' k'), σ.2.2)
theorem arrI_setI (σ : Hp) (f p k : Nat) (g : Nat → Int32) (x : Int32) : setI (arrI σ f p g) f p k x = arrI σ f p (upd g k x) := by
  unfold setI arrI
  refine Prod.ext rfl (Prod.ext ?_ rfl)
  funext f' p' k'
  show (if f' = f ∧ p' = p ∧ k' = k then x else if f' = f ∧ p' = p then g k' else σ.2.1 f' p' k') = if f' = f ∧ p' = p then upd g k x k' else σ.2.1 f' p' k'
  unfold upd
  by_cases a : f' = f ∧ p' = p
  · rw [if_pos a, if_pos a]
    by_cases b : k' = k
    · rw [if_pos ⟨a.1, a.2, b⟩, if_pos b]
    · rw [if_neg (fun q => b q.2.2), if_neg b]
  · rw [if_neg a, if_neg a, if_neg (fun q => a ⟨q.1, q.2.1⟩)]
theorem arrI_self (σ : Hp) (f p : Nat) : arrI σ f p (hI σ f p) = σ := by
  unfold arrI
  refine Prod.ext rfl (Prod.ext ?_ rfl)
  funext f' p' k'
  show (if f' = f ∧ p' = p then σ.2.1 f p k' else σ.2.1 f' p' k') = σ.2.1 f' p' k'
  split
  · rename_i h; rw [h.1, h.2]
  · rfl
theorem arrI_arrI (σ : Hp) (f p : Nat) (g g2 : Nat → Int32) : arrI (arrI σ f p g) f p g2 = arrI σ f p g2 := by
  unfold arrI
  refine Prod.ext rfl (Prod.ext ?_ rfl)
  funext f' p' k'
  show (if f' = f ∧ p' = p then g2 k' else if f' = f ∧ p' = p then g k' else σ.2.1 f' p' k') = if f' = f ∧ p' = p then g2 k' else σ.2.1 f' p' k'
  split <;> rfl
