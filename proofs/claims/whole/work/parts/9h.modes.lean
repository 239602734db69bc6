/-! the two modes: refs that are fixed are filled in -/
theorem Met_mo {l : Launch} {y : MethodName} {ws : List Cond} {rm : Room} {P P' : Array Value → State → Prop} {Q Q' : Array Value → State → Outcome → State → Prop} {mc ms : Nat} {fr : Addr → Prop} (h : Met l y ws rm P Q mc ms fr) (hp : ∀ v U, P' v U → P v U) (hq : ∀ v st o t, Q v st o t → Q' v st o t) : Met l y ws rm P' Q' mc ms fr := by
  intro p e ha hc hk s m args below hf happ hP hK
  obtain ⟨n, o, h1, h2, h3, hq1, hq2⟩ := h p e ha hc hk s m args below hf happ (hp _ _ hP) hK
  exact ⟨n, o, h1, h2, h3, hq _ _ _ _ hq1, hq2⟩
def fill (σ : Hp) : Hp := (σ.1, σ.2.1, σ.2.2.1, fun f p k => rdr true σ f p k)
theorem fill_I (σ : Hp) : hI (fill σ) = hI σ := rfl
theorem fill_L (σ : Hp) : hL (fill σ) = hL σ := rfl
theorem fill_1 (σ : Hp) : (fill σ).1 = σ.1 := rfl
theorem fill_R (σ : Hp) (f p k : Nat) : hR (fill σ) f p k = rdr true σ f p k := rfl
theorem fill_fill (σ : Hp) : fill (fill σ) = fill σ := by
  unfold fill
  refine Prod.ext rfl (Prod.ext rfl (Prod.ext rfl ?_))
  funext f p k
  show rdr true (fill σ) f p k = rdr true σ f p k
  unfold rdr
  cases h : srf f p k with
  | some a => simp only [h]
  | none =>
    simp only [h]
    show rdr true σ f p k = hR σ f p k
    unfold rdr
    simp only [h]
theorem cellE_fill (dT : Nat → ClassId) (z b : Nat) (σ : Hp) (a : Nat × Nat) : cellE false dT z b (fill σ) a = cellE true dT z b σ a := rfl
theorem wsl_fill (dT : Nat → ClassId) (z b : Nat) (σ : Hp) : wsl false dT z b (fill σ) = wsl true dT z b σ := rfl
theorem HI_tf {D : va_G} {dT : Nat → ClassId} {z b : Nat} {σ : Hp} {U : State} {H : Heap} (h : HI true D dT z b σ U H) : HI false D dT z b (fill σ) U H ∧ ∃ j, σ.1.1 = 266 + 10 * j := by
  obtain ⟨h1, h2, h3, h4, h5, h6, h7, h8⟩ := h
  exact ⟨⟨h1, by rw [wsl_fill]; exact h2, h3, h4, h5, h6, h7, fun w => by cases w⟩, h8 rfl⟩
theorem HI_ft {D : va_G} {dT : Nat → ClassId} {z b : Nat} {σ : Hp} {U : State} {H : Heap} (h : HI false D dT z b (fill σ) U H) (hj : ∃ j, σ.1.1 = 266 + 10 * j) : HI true D dT z b σ U H := by
  obtain ⟨h1, h2, h3, h4, h5, h6, h7, -⟩ := h
  exact ⟨h1, by rw [← wsl_fill]; exact h2, h3, h4, h5, h6, h7, fun _ => hj⟩
/-- a contract of the steady mode serves in the other one -/
theorem Ev_f {d mi : Nat} {as : List AV} {σ : Hp} {B : Nat × Nat × Nat} {Q : Option AV → Hp → Prop} (full : fill σ = σ) (hj : ∃ j, σ.1.1 = 266 + 10 * j) (h : Ev true d mi as σ B Q) : Ev false d mi as σ B (fun r s => ∃ s0, Q r s0 ∧ s = fill s0 ∧ ∃ j, s0.1.1 = 266 + 10 * j) := by
  obtain ⟨h1, h2, me, hm, k⟩ := h
  refine ⟨h1, h2, me, hm, fun l D dT z b => Met_mo (k l D dT z b) (fun v U w => ⟨w.1, HI_ft (by rw [full]; exact w.2) hj⟩) (fun v st o t w => ?_)⟩
  obtain ⟨⟨r, s, w1, w2, w3, w4, w5⟩, w6⟩ := w
  obtain ⟨w7, w8⟩ := HI_tf w5
  exact ⟨⟨r, fill s, w1, ⟨s, w2, rfl, w8⟩, w3, w4, w7⟩, w6⟩
/-- and the other way round, where what comes out is full -/
theorem Ev_t {d mi : Nat} {as : List AV} {σ : Hp} {B : Nat × Nat × Nat} {Q : Option AV → Hp → Prop} (h : Ev false d mi as (fill σ) B Q) (hq : ∀ r s, Q r s → s.1 = B → fill s = s ∧ ∃ j, s.1.1 = 266 + 10 * j) : Ev true d mi as σ B Q := by
  obtain ⟨h1, h2, me, hm, k⟩ := h
  refine ⟨h1, h2, me, hm, fun l D dT z b => Met_mo (k l D dT z b) (fun v U w => ⟨w.1, (HI_tf w.2).1⟩) (fun v st o t w => ?_)⟩
  obtain ⟨⟨r, s, w1, w2, w3, w4, w5⟩, w6⟩ := w
  obtain ⟨f1, f2⟩ := hq r s w2 w3
  exact ⟨⟨r, s, w1, w2, w3, w4, HI_ft (by rw [f1]; exact w5) f2⟩, w6⟩
theorem Ev_mo {md : Bool} {d mi : Nat} {as : List AV} {σ : Hp} {B : Nat × Nat × Nat} {Q Q' : Option AV → Hp → Prop} (h : Ev md d mi as σ B Q) (hq : ∀ r s, Q r s → s.1 = B → Q' r s) : Ev md d mi as σ B Q' := by
  obtain ⟨h1, h2, me, hm, k⟩ := h
  refine ⟨h1, h2, me, hm, fun l D dT z b => Met_mo (k l D dT z b) (fun v U w => w) (fun v st o t w => ?_)⟩
  obtain ⟨⟨r, s, w1, w2, w3, w4, w5⟩, w6⟩ := w
  exact ⟨⟨r, s, w1, hq r s w2 w3, w3, w4, w5⟩, w6⟩
/-! contracts with room for what is made -/
def leB (A B : Nat × Nat × Nat) : Prop := A.1 ≤ B.1 ∧ A.2.1 ≤ B.2.1
theorem leB.rfl' (A : Nat × Nat × Nat) : leB A A := ⟨Nat.le_refl _, Nat.le_refl _⟩
theorem leB.tr {A B C : Nat × Nat × Nat} (a : leB A B) (b : leB B C) : leB A C := ⟨Nat.le_trans a.1 b.1, Nat.le_trans a.2 b.2⟩
def RI (d mi : Nat) (as : List AV) (σ : Hp) (B : Nat × Nat × Nat) (v : Int32) (P : Hp → Prop) : Prop := Ev true d mi as σ B (fun r s => r = some (vi v) ∧ P s)
def RV (d mi : Nat) (as : List AV) (σ : Hp) (B : Nat × Nat × Nat) (P : Hp → Prop) : Prop := Ev true d mi as σ B (fun r s => r = none ∧ P s)
theorem RI_of {d mi : Nat} {as : List AV} {σ : Hp} {B : Nat × Nat × Nat} {P : Hp → Prop} {v : Int32} {me : MEnt} (hm : MT[mi]? = some me) (hl : (ent as).length ≤ me.2.2.1) (hB : leB σ.1 B) (k : ∀ Q : Option AV → Hp → Prop, (∀ h, P h → Q (some (vi v)) h) → Sat true d mi B Q 0 (entL me.2.2.1 as) [] σ) : RI d mi as σ B v P := Ev_of hm hl hB.1 hB.2 (k _ fun _ q => ⟨rfl, q⟩)
theorem RV_of {d mi : Nat} {as : List AV} {σ : Hp} {B : Nat × Nat × Nat} {P : Hp → Prop} {me : MEnt} (hm : MT[mi]? = some me) (hl : (ent as).length ≤ me.2.2.1) (hB : leB σ.1 B) (k : ∀ Q : Option AV → Hp → Prop, (∀ h, P h → Q none h) → Sat true d mi B Q 0 (entL me.2.2.1 as) [] σ) : RV d mi as σ B P := Ev_of hm hl hB.1 hB.2 (k _ fun _ q => ⟨rfl, q⟩)
theorem cr_i {d mj : Nat} {as : List AV} {σ : Hp} {v : Int32} {P : Hp → Prop} {B' B : Nat × Nat × Nat} {K : Int32 → Hp → Prop} (c : RI d mj as σ B' v P) (hB : leB B' B) (k : ∀ h, P h → h.1 = B' → K v h) : CalI true d mj as σ B K := ⟨B', _, c, hB.1, hB.2, fun x s q e => by
  obtain ⟨q1, q2⟩ := q
  cases q1
  exact k s q2 e⟩
theorem cr_v {d mj : Nat} {as : List AV} {σ : Hp} {P : Hp → Prop} {B' B : Nat × Nat × Nat} {K : Hp → Prop} (c : RV d mj as σ B' P) (hB : leB B' B) (k : ∀ h, P h → h.1 = B' → K h) : CalV true d mj as σ B K := ⟨B', _, c, hB.1, hB.2, fun s q e => k s q.2 e⟩
theorem dl_i {d mj : Nat} {as : List AV} {σ h : Hp} {v : Int32} {B : Nat × Nat × Nat} {K : Int32 → Hp → Prop} (c : EI d mj as σ v h) (hB : leB σ.1 B) (k : K v h) : CalI true d mj as σ B K := ⟨σ.1, _, c, hB.1, hB.2, fun x s q _ => by
  obtain ⟨q1, q2⟩ := q
  cases q1
  rw [q2]
  exact k⟩
theorem dl_l {d mj : Nat} {as : List AV} {σ h : Hp} {v : Int64} {B : Nat × Nat × Nat} {K : Int64 → Hp → Prop} (c : EL d mj as σ v h) (hB : leB σ.1 B) (k : K v h) : CalL true d mj as σ B K := ⟨σ.1, _, c, hB.1, hB.2, fun x s q _ => by
  obtain ⟨q1, q2⟩ := q
  cases q1
  rw [q2]
  exact k⟩
theorem dl_v {d mj : Nat} {as : List AV} {σ h : Hp} {B : Nat × Nat × Nat} {K : Hp → Prop} (c : EV d mj as σ h) (hB : leB σ.1 B) (k : K h) : CalV true d mj as σ B K := ⟨σ.1, _, c, hB.1, hB.2, fun s q _ => by
  rw [q.2]
  exact k⟩
theorem dp_i {d mj : Nat} {as : List AV} {σ : Hp} {v : Int32} {P : Hp → Prop} {B : Nat × Nat × Nat} {K : Int32 → Hp → Prop} (c : PI d mj as σ v P) (hB : leB σ.1 B) (k : ∀ h, P h → h.1 = σ.1 → K v h) : CalI true d mj as σ B K := cr_i c hB k
theorem dp_v {d mj : Nat} {as : List AV} {σ : Hp} {P : Hp → Prop} {B : Nat × Nat × Nat} {K : Hp → Prop} (c : PV d mj as σ P) (hB : leB σ.1 B) (k : ∀ h, P h → h.1 = σ.1 → K h) : CalV true d mj as σ B K := cr_v c hB k
