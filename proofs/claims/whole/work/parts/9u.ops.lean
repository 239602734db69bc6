/-! the state of both sides, and what a call does to it -/
def CF (f _ : Nat) : Prop := 1 ≤ f ∧ f < 233
def MF (f _ : Nat) : Prop := 233 ≤ f
def InC (h : Hp) (m n : Nat) (t : Nat → Nat) (D : List DB) (x : DB) : Prop := PdC h n t ∧ CS h x.1 (XF x.1) x.2.1 x.2.2 ∧ HiC h m D
def InM (h : Hp) (n : Nat) (t : Nat → Nat) (D : List DB) (x : DB) : Prop := PadM h n t ∧ MS h x.1 (XF x.1) x.2.1 x.2.2 ∧ HiM h D
def DuP (D : List DB) : Prop := D.length ≤ 10 ∧ ∀ y ∈ D, EnU y.2.2
def InP (D : List DB) (x : DB) : Prop := gX x.1 ∧ EnU x.2.2 ∧ DuP D
theorem okM (m : Nat) : m ≤ m ∧ (m ≤ 10 → m ≤ 10) := ⟨Nat.le_refl _, id⟩
theorem kpM_b {m : Nat} {D : List DB} {x : DB} (h : InP D x) : m ≤ kpM m D ∧ (m ≤ 10 → kpM m D ≤ 10) := by
  refine ⟨kpM_ge m D, fun hm => ?_⟩
  have := capD_len h.2.2.1
  unfold kpM
  split <;> omega
theorem gP_of {σ : Hp} {P : Nat → List Line} {X : Nat → XA} {rs : List (Pl × Pl)} {es : List En} (cs : CS σ P X rs es) : gP P := fun q hq => ⟨(cs.1 q hq).1, (cs.1 q hq).2.1⟩
theorem PdC_eq {σ h : Hp} {n : Nat} {t : Nat → Nat} (e1 : hI h 1 0 1 = hI σ 1 0 1) (e2 : hI h 2 0 = hI σ 2 0) (k : PdC σ n t) : PdC h n t := ⟨⟨k.1.1, fun i hi => by rw [e2]; exact k.1.2 i hi⟩, e1.trans k.2⟩
theorem HiC_eq {σ h : Hp} {m : Nat} {D : List DB} (e7 : hI h 1 0 7 = hI σ 1 0 7) (e3 : hR h 3 0 = hR σ 3 0) (e8 : ∀ j x, j ≠ 0 → DBC σ j x → DBC h j x) (k : HiC σ m D) : HiC h m D := by
  obtain ⟨k1, k2, k3, q, k4, k5, k6, k7⟩ := k
  exact ⟨e7.trans k1, k2, k3, q, fun i hi => by rw [e3]; exact k4 i hi, fun i h1 h2 => by rw [e3]; exact k5 i h1 h2, k6, All_mo k7 fun j x _ w => e8 _ _ (by omega) w⟩
theorem InC_fr {S : Nat → Nat → Prop} {σ h : Hp} {m n : Nat} {t : Nat → Nat} {D : List DB} {x : DB} (f : Fr S σ h) (ns : ∀ g i, (g = 1 ∨ g = 2 ∨ g = 3 ∨ (8 ≤ g ∧ g ≤ 37)) → ¬ S g i) (k : InC σ m n t D x) : InC h m n t D x :=
  ⟨PdC_eq (congrFun (f.2 1 0 (ns 1 0 (by omega))).1 1) (f.2 2 0 (ns 2 0 (by omega))).1 k.1, CS_fr f (fun g i a b _ => ns g i (by omega)) k.2.1, HiC_eq (congrFun (f.2 1 0 (ns 1 0 (by omega))).1 7) (f.2 3 0 (ns 3 0 (by omega))).2.2 (fun j y _ w => DBC_fr f (fun g a b => ns g j (by omega)) w) k.2.2⟩
theorem InC_m {σ h : Hp} {m n : Nat} {t : Nat → Nat} {D : List DB} {x : DB} (f : Fr MF σ h) (k : InC σ m n t D x) : InC h m n t D x := InC_fr f (fun g i w u => by unfold MF at u; omega) k
theorem fm_fr {S : Nat → Nat → Prop} {σ h : Hp} (f : FrM S σ h) (s : ∀ g k, S g k → 233 ≤ g) : Fr MF σ h := ⟨f.1, fun g i w => ⟨funext fun j => f.2.2.2 g i j (fun u => w (s g j u.2)), by rw [f.2.1], by rw [f.2.2.1]⟩⟩
theorem MS_eq {h h' : Hp} {P : Nat → List Line} {X : Nat → XA} {rs : List (Pl × Pl)} {es : List En} (e5 : hI h' 233 0 5 = hI h 233 0 5) (e235 : hI h' 235 0 = hI h 235 0) (e : ∀ f, 239 ≤ f → hI h' f 0 = hI h f 0) (k : MS h P X rs es) : MS h' P X rs es := by
  obtain ⟨k1, k2, k3, ⟨b, b1, b2⟩, k5, k6⟩ := k
  have db : DBM h' (P, rs, es) := DBM_lt (h := h) (fun i _ => by rw [e235]) ⟨k3, k5, k6⟩
  exact ⟨k1, k2, db.1, ⟨b, e5.trans b1, fun w p hp => LaidP_cong k1 hp (fun f k r => by rw [e f (by unfold Reg at r; omega)]) (b2 w p hp)⟩, db.2.1, db.2.2⟩
theorem PadM_eq {σ h : Hp} {n : Nat} {t : Nat → Nat} (e1 : hI h 233 0 1 = hI σ 233 0 1) (e2 : hI h 234 0 = hI σ 234 0) (k : PadM σ n t) : PadM h n t := ⟨k.1, e1.trans k.2.1, fun i hi => by rw [e2]; exact k.2.2 i hi⟩
theorem InM_c {σ h : Hp} {n : Nat} {t : Nat → Nat} {D : List DB} {x : DB} (f : Fi CF σ h) (k : InM σ n t D x) : InM h n t D x := by
  have e : ∀ g, 233 ≤ g → hI h g 0 = hI σ g 0 := fun g hg => (f g 0 (fun w => by unfold CF at w; omega)).1
  exact ⟨PadM_eq (by rw [e 233 (by omega)]) (e 234 (by omega)) k.1, MS_eq (by rw [e 233 (by omega)]) (e 235 (by omega)) (fun f hf => e f (by omega)) k.2.1, HiM_cong (by rw [e 233 (by omega)]) (e 236 (by omega)) k.2.2⟩
theorem InM_fr {S : Nat → Nat → Prop} {σ h : Hp} {n : Nat} {t : Nat → Nat} {D : List DB} {x x' : DB} (f : FrM S σ h) (n1 : ¬ S 233 1) (n4 : ¬ S 233 4) (n2 : ∀ k, ¬ S 234 k) (n3 : ∀ k, ¬ S 236 k) (ms : MS h x'.1 (XF x'.1) x'.2.1 x'.2.2) (k : InM σ n t D x) : InM h n t D x' :=
  ⟨PadM_eq (f.2.2.2 233 0 1 fun q => n1 q.2) (f.fam n2 0) k.1, ms, HiM_fr f n4 n3 k.2.2⟩
/-- a call does the same on both sides -/
def OpOK (mc mm : Nat) (as : List AV) : Prop := ∀ (L m n : Nat) (t : Nat → Nat) (D : List DB) (x : DB), InP D x → ∃ (v : Int32) (m' n' : Nat) (t' : Nat → Nat) (D' : List DB) (x' : DB), (m ≤ m' ∧ (m ≤ 10 → m' ≤ 10)) ∧ (∀ σ, σ.1 = Bm m L → InC σ m n t D x → RI 35 mc (vr 1 0 :: as) σ (Bm m' L) v (fun h => InC h m' n' t' D' x' ∧ InP D' x' ∧ Fi CF σ h)) ∧ ∀ σ, InM σ n t D x → InP D' x' → PI 35 mm (vr 233 0 :: as) σ v (fun h => InM h n' t' D' x' ∧ Fr MF σ h)
theorem PI_EI {d mi : Nat} {as : List AV} {σ h : Hp} {v : Int32} {P : Hp → Prop} (c : EI d mi as σ v h) (p : P h) : PI d mi as σ v P := Ev_mo c fun r s q _ => ⟨q.1, by rw [q.2]; exact p⟩
theorem PI_mo {d mi : Nat} {as : List AV} {σ : Hp} {v : Int32} {P P' : Hp → Prop} (c : PI d mi as σ v P) (p : ∀ h, P h → P' h) : PI d mi as σ v P' := Ev_mo c fun r s q _ => ⟨q.1, p s q.2⟩
theorem RI_PI {d mi : Nat} {as : List AV} {σ : Hp} {v : Int32} {P : Hp → Prop} {B : Nat × Nat × Nat} (hB : σ.1 = B) (c : PI d mi as σ v P) : RI d mi as σ B v P := by
  rw [← hB]
  exact c
theorem Fr_CF {S : Nat → Nat → Prop} {σ h : Hp} (f : Fr S σ h) (s : ∀ g i, S g i → 1 ≤ g ∧ g < 233) : Fi CF σ h := f.fi.mo s
theorem QF_CF {σ h : Hp} (f : Fr QF σ h) : Fi CF σ h := Fr_CF f fun g i w => by unfold QF at w; omega
theorem SA_MF {σ h : Hp} (f : FrM SA σ h) : Fr MF σ h := fm_fr f fun g k w => by
  unfold SA SQ SLay SRes SRp at w
  omega
theorem op_of {mc mm : Nat} {as : List AV} (V : Nat → List DB → DB → Int32) (hc : ∀ (σ : Hp) (m n : Nat) (t : Nat → Nat) (D : List DB) (x : DB), InP D x → InC σ m n t D x → PI 35 mc (vr 1 0 :: as) σ (V n D x) (fun h => Fr QF σ h)) (hm : ∀ (σ : Hp) (n : Nat) (t : Nat → Nat) (D : List DB) (x : DB), InP D x → InM σ n t D x → PI 35 mm (vr 233 0 :: as) σ (V n D x) (fun h => MS h x.1 (XF x.1) x.2.1 x.2.2 ∧ FrM SA σ h)) : OpOK mc mm as := by
  intro L m n t D x hp
  refine ⟨V n D x, m, n, t, D, x, okM m, fun σ hB k => RI_PI hB (PI_mo (hc σ m n t D x hp k) fun h f => ⟨InC_fr f (fun g i w u => by unfold QF at u; omega) k, hp, QF_CF f⟩), fun σ k _ => PI_mo (hm σ n t D x hp k) fun h q => ⟨InM_fr q.2 ?_ ?_ ?_ ?_ q.1 k, SA_MF q.2⟩⟩
  · unfold SA SQ SLay SRes SRp; omega
  · unfold SA SQ SLay SRes SRp; omega
  · intro k; unfold SA SQ SLay SRes SRp; omega
  · intro k; unfold SA SQ SLay SRes SRp; omega
theorem SQ_A {σ h : Hp} (f : FrM SQ σ h) : FrM SA σ h := f.mo fun _ _ w => Or.inl w
theorem op_character (a b : Int32) : OpOK 74 143 [vi a, vi b] := op_of (fun _ _ x => characterV x.1 a b) (fun σ m n t D x hp k => PI_EI (e_character 34 k.2.1.1 a b) (Fr.rfl' _ _)) (fun σ n t D x hp k => PI_EI (m_character 33 k.2.1.2.2.1 a b) ⟨k.2.1, FrM.rfl' _ _⟩)
theorem op_about (a b : Int32) : OpOK 75 158 [vi a, vi b] := op_of (fun _ _ x => abV x.1 (XF x.1) a b) (fun σ m n t D x hp k => PI_EI (e_about 34 k.2.1 a b) (Fr.rfl' _ _)) (fun σ n t D x hp k => PI_mo (m_about 28 k.2.1 a b) fun h q => ⟨q.1, SQ_A q.2⟩)
theorem op_heading (a b c : Int32) : OpOK 76 160 [vi a, vi b, vi c] := op_of (fun _ _ x => headV (XF x.1) a b c) (fun σ m n t D x hp k => e_heading 32 k.2.1 (gP_of k.2.1) hp.1 a b c) (fun σ n t D x hp k => PI_mo (m_heading 28 k.2.1 a b c) fun h q => ⟨q.1, SQ_A q.2⟩)
theorem op_anchor (a b c : Int32) : OpOK 77 161 [vi a, vi b, vi c] := op_of (fun _ _ x => ancV (XF x.1) a b c) (fun σ m n t D x hp k => e_anchor 32 k.2.1 hp.1 a b c) (fun σ n t D x hp k => PI_mo (m_anchor 28 k.2.1 a b c) fun h q => ⟨q.1, SQ_A q.2⟩)
theorem op_section (a b c : Int32) : OpOK 78 162 [vi a, vi b, vi c] := op_of (fun _ _ x => secV x.1 (XF x.1) a b c) (fun σ m n t D x hp k => PI_EI (e_section 34 k.2.1 (gP_of k.2.1) a b c) (Fr.rfl' _ _)) (fun σ n t D x hp k => PI_mo (m_section 29 k.2.1 a b c) fun h q => ⟨q.1, SQ_A q.2⟩)
theorem op_cycles : OpOK 79 164 [] := op_of (fun _ _ x => cycV x.1) (fun σ m n t D x hp k => PI_EI (e_cycles 33 k.2.1) (Fr.rfl' _ _)) (fun σ n t D x hp k => PI_mo (m_cycles 28 k.2.1) fun h q => ⟨q.1, SQ_A q.2⟩)
theorem op_redirection (a b : Int32) : OpOK 82 171 [vi a, vi b] := op_of (fun _ _ x => redirV x.1 (XF x.1) x.2.1 a b) (fun σ m n t D x hp k => e_redirection 31 k.2.1 (gP_of k.2.1) a b) (fun σ n t D x hp k => PI_mo (m_redirection 24 k.2.1 a b) fun h q => ⟨q.1, SQ_A q.2⟩)
theorem op_link (a b c : Int32) : OpOK 83 179 [vi a, vi b, vi c] := op_of (fun _ _ x => linkV x.1 (XF x.1) x.2.1 a b c) (fun σ m n t D x hp k => e_link 32 k.2.1 (gP_of k.2.1) a b c) (fun σ n t D x hp k => PI_mo (m_link 26 k.2.1 a b c) fun h q => ⟨q.1, SQ_A q.2⟩)
theorem op_tally (c : Int32) : OpOK 84 182 [vi c] := op_of (fun _ _ x => tallyV x.1 (XF x.1) x.2.1 c) (fun σ m n t D x hp k => e_tally 31 k.2.1 (gP_of k.2.1) c) (fun σ n t D x hp k => PI_mo (m_tally 25 k.2.1 c) fun h q => ⟨q.1, SQ_A q.2⟩)
theorem op_reach (a b : Int32) : OpOK 85 183 [vi a, vi b] := op_of (fun _ _ x => reachV x.1 (XF x.1) x.2.1 a b) (fun σ m n t D x hp k => e_reach 30 k.2.1 (gP_of k.2.1) a b) (fun σ n t D x hp k => PI_mo (m_reach 25 k.2.1 a b) fun h q => ⟨q.1, SQ_A q.2⟩)
theorem op_memory (a b : Int32) : OpOK 86 186 [vi a, vi b] := op_of (fun _ _ x => memV x.1 (XF x.1) x.2.2 a b) (fun σ m n t D x hp k => e_memory 33 k.2.1 (gP_of k.2.1) a b) (fun σ n t D x hp k => PI_mo (m_memory 28 k.2.1 a b) fun h q => ⟨q.1, SQ_A q.2⟩)
theorem op_repair (a b c : Int32) : OpOK 87 194 [vi a, vi b, vi c] := op_of (fun _ _ x => repairV x.1 (XF x.1) x.2.1 x.2.2 a b c) (fun σ m n t D x hp k => e_repair 30 k.2.1 (gP_of k.2.1) hp.1 a b c) (fun σ n t D x hp k => m_repair 25 k.2.1 a b c)
theorem op_count (c : Int32) : OpOK 92 202 [vi c] := op_of (fun n D x => countN x.1 (XF x.1) x.2.1 x.2.2 n D.length c) (fun σ m n t D x hp k => e_count 31 k.2.1 (gP_of k.2.1) k.1.2 k.2.2.1 c) (fun σ n t D x hp k => PI_mo (m_count 25 k.2.1 k.1.2.1 k.2.2.1 c) fun h q => ⟨q.1, SQ_A q.2⟩)
