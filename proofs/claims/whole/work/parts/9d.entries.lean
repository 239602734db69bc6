/-! the class's State: addEntry, dropEntry -/
def plE (y : En) : Pl := (y.1, some y.2.1)
def EnU (es : List En) : Prop := (es.map plE).Nodup
def erE (x : Pl) (es : List En) : List En := es.filter fun y => decide (plE y ≠ x)
def capE (es : List En) : List En := if 40 ≤ es.length then es.eraseIdx 0 else es
def addE (es : List En) (y : En) : List En := capE (erE (plE y) es) ++ [y]
theorem erE_no {x : Pl} : ∀ {es : List En}, (∀ y ∈ es, plE y ≠ x) → erE x es = es := by
  intro es
  induction es with
  | nil => intro _; rfl
  | cons z r ih =>
    intro h
    unfold erE
    rw [List.filter_cons_of_pos (p := fun y => decide (plE y ≠ x)) (a := z) (decide_eq_true (h z List.mem_cons_self))]
    exact congrArg (z :: ·) (ih fun y hy => h y (List.mem_cons_of_mem _ hy))
theorem enF_u {x : Pl} : ∀ {es : List En} (i : Nat), EnU es → (enF x es i = (-6) ∧ erE x es = es) ∨ ∃ k, k < es.length ∧ enF x es i = nI (i + k) ∧ es.eraseIdx k = erE x es := by
  intro es
  induction es with
  | nil => intro i _; exact Or.inl ⟨rfl, rfl⟩
  | cons z r ih =>
    intro i hu
    have hu2 : (plE z :: r.map plE).Nodup := hu
    obtain ⟨u1, u2⟩ := List.nodup_cons.mp hu2
    unfold enF
    by_cases c : plE z = x
    · have c' : (z.1, some z.2.1) = x := c
      rw [if_pos c']
      refine Or.inr ⟨0, Nat.zero_lt_succ _, rfl, ?_⟩
      unfold erE
      rw [List.filter_cons_of_neg (p := fun y => decide (plE y ≠ x)) (a := z) (by show ¬ decide (plE z ≠ x) = true; rw [decide_eq_false (fun w => w c)]; exact Bool.false_ne_true)]
      exact (erE_no fun y hy w => u1 (List.mem_map.mpr ⟨y, hy, w.trans c.symm⟩)).symm
    · have c' : ¬ (z.1, some z.2.1) = x := c
      rw [if_neg c']
      have e : erE x (z :: r) = z :: erE x r := by
        unfold erE
        rw [List.filter_cons_of_pos (p := fun y => decide (plE y ≠ x)) (a := z) (decide_eq_true c)]
      rcases ih (i + 1) u2 with ⟨h1, h2⟩ | ⟨k, h1, h2, h3⟩
      · exact Or.inl ⟨h1, by rw [e, h2]⟩
      · refine Or.inr ⟨k + 1, by rw [List.length_cons]; omega, by rw [h2, show i + 1 + k = i + (k + 1) by omega], ?_⟩
        rw [e, ← h3]
        rfl
theorem erE_len (x : Pl) (es : List En) : (erE x es).length ≤ es.length := List.length_filter_le _ _
theorem capE_len {es : List En} (h : es.length ≤ 40) : (capE es).length ≤ 39 := by
  unfold capE
  by_cases c : 40 ≤ es.length
  · rw [if_pos c, er_len (by omega)]
    omega
  · rw [if_neg c]
    omega
section
variable {σ : Hp} {es : List En}
set_option maxRecDepth 6000 in
theorem e_dropEntry (d : Nat) {r : Nat} (hr : EnsC σ 0 es) (hl : r < es.length) : PV (d + 1) 67 [vr 8 0, vi (nI r)] σ (fun h => EnsC h 0 (es.eraseIdx r) ∧ (∀ k, k ≠ 7 → hI h 8 0 k = hI σ 8 0 k) ∧ Fr SEn σ h) := by
  refine PV_of mt_67 (Nat.le_of_ble_eq_true rfl) fun Q hq => ?_
  obtain ⟨r1, r2, r3⟩ := hr
  refine wp_ok (cut := []) ma_67 rfl 48 _ _ _ _ ?_
  show (((nI r) < 0 → (Q none σ ∧ σ.1 = σ.1)) ∧ (¬ (nI r) < 0 → ((0 ≤ (((hI σ 8 0 7) - (nI r)) - (nI 1)) → (¬ ((nI r) + (nI 1)) < 0 ∧ ¬ (nI r) < 0 ∧ ¬ (((hI σ 8 0 7) - (nI r)) - (nI 1)) < 0 ∧ ((nI r) + (nI 1)).toNatClampNeg + (((hI σ 8 0 7) - (nI r)) - (nI 1)).toNatClampNeg ≤ 40 ∧ (nI r).toNatClampNeg + (((hI σ 8 0 7) - (nI r)) - (nI 1)).toNatClampNeg ≤ 40 ∧ (¬ ((nI r) + (nI 1)) < 0 ∧ ¬ (nI r) < 0 ∧ ¬ (((hI σ 8 0 7) - (nI r)) - (nI 1)) < 0 ∧ ((nI r) + (nI 1)).toNatClampNeg + (((hI σ 8 0 7) - (nI r)) - (nI 1)).toNatClampNeg ≤ 40 ∧ (nI r).toNatClampNeg + (((hI σ 8 0 7) - (nI r)) - (nI 1)).toNatClampNeg ≤ 40 ∧ (¬ ((nI r) + (nI 1)) < 0 ∧ ¬ (nI r) < 0 ∧ ¬ (((hI σ 8 0 7) - (nI r)) - (nI 1)) < 0 ∧ ((nI r) + (nI 1)).toNatClampNeg + (((hI σ 8 0 7) - (nI r)) - (nI 1)).toNatClampNeg ≤ 40 ∧ (nI r).toNatClampNeg + (((hI σ 8 0 7) - (nI r)) - (nI 1)).toNatClampNeg ≤ 40 ∧ (Q none (setI (cpI (cpL (cpI σ 15 0 (((nI r) + (nI 1)).toNatClampNeg) 15 0 ((nI r).toNatClampNeg) ((((hI σ 8 0 7) - (nI r)) - (nI 1)).toNatClampNeg)) 16 0 (((nI r) + (nI 1)).toNatClampNeg) 16 0 ((nI r).toNatClampNeg) ((((hI σ 8 0 7) - (nI r)) - (nI 1)).toNatClampNeg)) 17 0 (((nI r) + (nI 1)).toNatClampNeg) 17 0 ((nI r).toNatClampNeg) ((((hI σ 8 0 7) - (nI r)) - (nI 1)).toNatClampNeg)) 8 0 7 ((hI σ 8 0 7) - (nI 1))) ∧ σ.1 = σ.1))))) ∧ (¬ 0 ≤ (((hI σ 8 0 7) - (nI r)) - (nI 1)) → (Q none σ ∧ σ.1 = σ.1)))))
  rw [r1, subN (a := es.length) (b := r) (by omega), subN (a := es.length - r) (b := 1) (by omega), addN, ix (n := es.length - r - 1) (by omega), ix (n := r + 1) (by omega), ix (n := r) (by omega), subN (a := es.length) (b := 1) (by omega)]
  have n1 := nn0 (r + 1) (by omega)
  have n2 := nn0 r (by omega)
  have n3 := nn0 (es.length - r - 1) (by omega)
  have b1 : r + 1 + (es.length - r - 1) ≤ 40 := by omega
  have b2 : r + (es.length - r - 1) ≤ 40 := by omega
  refine ⟨fun g => absurd g n2, fun _ => ⟨fun _ => ⟨n1, n2, n3, b1, b2, n1, n2, n3, b1, b2, n1, n2, n3, b1, b2, hq _ ⟨⟨?_, ?_, ?_⟩, fun k hk => ?_, ?_⟩, rfl⟩, fun g => absurd ((leN (a := 0) (by omega) (by omega)).mpr (Nat.zero_le _)) g⟩⟩
  · rw [er_len hl, hI_s]
  · rw [er_len hl]
    omega
  · intro j y hy
    have hjl := All_lt hy
    rw [er_len hl] at hjl
    have kI : ∀ w : Nat → Int32, (if r ≤ j ∧ j < r + (es.length - r - 1) then w (r + 1 + (j - r)) else w j) = if r ≤ j then w (j + 1) else w j := by
      intro w
      by_cases c : r ≤ j
      · rw [if_pos ⟨c, by omega⟩, if_pos c, show r + 1 + (j - r) = j + 1 by omega]
      · rw [if_neg (fun z => c z.1), if_neg c]
    have kL : ∀ w : Nat → Int64, (if r ≤ j ∧ j < r + (es.length - r - 1) then w (r + 1 + (j - r)) else w j) = if r ≤ j then w (j + 1) else w j := by
      intro w
      by_cases c : r ≤ j
      · rw [if_pos ⟨c, by omega⟩, if_pos c, show r + 1 + (j - r) = j + 1 by omega]
      · rw [if_neg (fun z => c z.1), if_neg c]
    have e15 : hI (setI (cpI (cpL (cpI σ 15 0 (r + 1) 15 0 r (es.length - r - 1)) 16 0 (r + 1) 16 0 r (es.length - r - 1)) 17 0 (r + 1) 17 0 r (es.length - r - 1)) 8 0 7 (nI (es.length - 1))) 15 0 j = if r ≤ j then hI σ 15 0 (j + 1) else hI σ 15 0 j := by
      rw [hI_f _ _ _ (by omega), hI_cpf _ (by omega), hI_cpL, hI_cp]
      exact kI _
    have e17 : hI (setI (cpI (cpL (cpI σ 15 0 (r + 1) 15 0 r (es.length - r - 1)) 16 0 (r + 1) 16 0 r (es.length - r - 1)) 17 0 (r + 1) 17 0 r (es.length - r - 1)) 8 0 7 (nI (es.length - 1))) 17 0 j = if r ≤ j then hI σ 17 0 (j + 1) else hI σ 17 0 j := by
      rw [hI_f _ _ _ (by omega), hI_cp, hI_cpL, hI_cpf _ (by omega)]
      exact kI _
    have e16 : hL (setI (cpI (cpL (cpI σ 15 0 (r + 1) 15 0 r (es.length - r - 1)) 16 0 (r + 1) 16 0 r (es.length - r - 1)) 17 0 (r + 1) 17 0 r (es.length - r - 1)) 8 0 7 (nI (es.length - 1))) 16 0 j = if r ≤ j then hL σ 16 0 (j + 1) else hL σ 16 0 j := by
      show hL (cpL (cpI σ 15 0 (r + 1) 15 0 r (es.length - r - 1)) 16 0 (r + 1) 16 0 r (es.length - r - 1)) 16 0 j = _
      rw [hL_cp, hL_cpI]
      exact kL _
    rcases er_at hl hy with ⟨c, w⟩ | ⟨c, w⟩
    · have z := r3 j y w
      refine ⟨?_, ?_, ?_, z.2.2.2⟩
      · rw [e15, if_neg (by omega)]; exact z.1
      · rw [e16, if_neg (by omega)]; exact z.2.1
      · rw [e17, if_neg (by omega)]; exact z.2.2.1
    · have z := r3 (j + 1) y w
      refine ⟨?_, ?_, ?_, z.2.2.2⟩
      · rw [e15, if_pos c]; exact z.1
      · rw [e16, if_pos c]; exact z.2.1
      · rw [e17, if_pos c]; exact z.2.2.1
  · rw [hI_k _ _ _ _ hk, hI_cpf _ (by omega), hI_cpL, hI_cpf _ (by omega)]
  · exact (((Fr.rfl' SEn σ).cI (g := 15) ⟨rfl, by omega⟩).cL (g := 16) ⟨rfl, by omega⟩).cI (g := 17) ⟨rfl, by omega⟩ |>.sI (f := 8) ⟨rfl, by omega⟩ _ _
theorem e_dropNone (d : Nat) (σ : Hp) : EV (d + 1) 67 [vr 8 0, vi (-6)] σ σ := by
  refine EV_of mt_67 (Nat.le_of_ble_eq_true rfl) fun Q hq => ?_
  refine wp_ok (cut := []) ma_67 rfl 48 _ _ _ _ ?_
  show (((-6 : Int32) < 0 → (Q none σ ∧ σ.1 = σ.1)) ∧ (¬ (-6 : Int32) < 0 → ((0 ≤ (((hI σ 8 0 7) - (-6 : Int32)) - (nI 1)) → (¬ ((-6 : Int32) + (nI 1)) < 0 ∧ ¬ (-6 : Int32) < 0 ∧ ¬ (((hI σ 8 0 7) - (-6 : Int32)) - (nI 1)) < 0 ∧ ((-6 : Int32) + (nI 1)).toNatClampNeg + (((hI σ 8 0 7) - (-6 : Int32)) - (nI 1)).toNatClampNeg ≤ 40 ∧ (-6 : Int32).toNatClampNeg + (((hI σ 8 0 7) - (-6 : Int32)) - (nI 1)).toNatClampNeg ≤ 40 ∧ (¬ ((-6 : Int32) + (nI 1)) < 0 ∧ ¬ (-6 : Int32) < 0 ∧ ¬ (((hI σ 8 0 7) - (-6 : Int32)) - (nI 1)) < 0 ∧ ((-6 : Int32) + (nI 1)).toNatClampNeg + (((hI σ 8 0 7) - (-6 : Int32)) - (nI 1)).toNatClampNeg ≤ 40 ∧ (-6 : Int32).toNatClampNeg + (((hI σ 8 0 7) - (-6 : Int32)) - (nI 1)).toNatClampNeg ≤ 40 ∧ (¬ ((-6 : Int32) + (nI 1)) < 0 ∧ ¬ (-6 : Int32) < 0 ∧ ¬ (((hI σ 8 0 7) - (-6 : Int32)) - (nI 1)) < 0 ∧ ((-6 : Int32) + (nI 1)).toNatClampNeg + (((hI σ 8 0 7) - (-6 : Int32)) - (nI 1)).toNatClampNeg ≤ 40 ∧ (-6 : Int32).toNatClampNeg + (((hI σ 8 0 7) - (-6 : Int32)) - (nI 1)).toNatClampNeg ≤ 40 ∧ (Q none (setI (cpI (cpL (cpI σ 15 0 (((-6 : Int32) + (nI 1)).toNatClampNeg) 15 0 ((-6 : Int32).toNatClampNeg) ((((hI σ 8 0 7) - (-6 : Int32)) - (nI 1)).toNatClampNeg)) 16 0 (((-6 : Int32) + (nI 1)).toNatClampNeg) 16 0 ((-6 : Int32).toNatClampNeg) ((((hI σ 8 0 7) - (-6 : Int32)) - (nI 1)).toNatClampNeg)) 17 0 (((-6 : Int32) + (nI 1)).toNatClampNeg) 17 0 ((-6 : Int32).toNatClampNeg) ((((hI σ 8 0 7) - (-6 : Int32)) - (nI 1)).toNatClampNeg)) 8 0 7 ((hI σ 8 0 7) - (nI 1))) ∧ σ.1 = σ.1))))) ∧ (¬ 0 ≤ (((hI σ 8 0 7) - (-6 : Int32)) - (nI 1)) → (Q none σ ∧ σ.1 = σ.1)))))
  exact ⟨fun _ => ⟨hq, rfl⟩, fun g => absurd (by decide) g⟩
set_option maxRecDepth 6000 in
theorem e_addEntry (d : Nat) {y : En} (hr : EnsC σ 0 es) (hu : EnU es) (h12 : y.1 < 12) (ga : gAnc y.2.1) (hg : y.2.2 < 1000003) : PV (d + 2) 66 [vr 8 0, vi (nI y.1), vl (lN (anC y.2.1)), vi (nI y.2.2)] σ (fun h => EnsC h 0 (addE es y) ∧ (∀ k, k ≠ 7 → hI h 8 0 k = hI σ 8 0 k) ∧ Fr SEn σ h) := by
  refine PV_of mt_66 (Nat.le_of_ble_eq_true rfl) fun Q hq => ?_
  have h40 := hr.2.1
  have gx : gPl (plE y) := ⟨h12, fun a ha => by cases ha; exact ga⟩
  have ew := e_entryWith (d + 1) (x := plE y) hr gx
  -- there is room, and it is put down
  have fin : ∀ h, EnsC h 0 (capE (erE (plE y) es)) → (∀ k, k ≠ 7 → hI h 8 0 k = hI σ 8 0 k) → Fr SEn σ h → vp_in (hI h 8 0 7) 40 ∧ vp_in (hI h 8 0 7) 40 ∧ vp_in (hI h 8 0 7) 40 ∧ Q none (setI (setI (setL (setI h 15 0 (hI h 8 0 7).toNatClampNeg (nI y.1)) 16 0 (hI h 8 0 7).toNatClampNeg (lN (anC y.2.1))) 17 0 (hI h 8 0 7).toNatClampNeg (nI y.2.2)) 8 0 7 (hI h 8 0 7 + nI 1)) ∧ h.1 = σ.1 := by
    intro h k1 k2 k3
    obtain ⟨r1, r2, r3⟩ := k1
    have cl : (capE (erE (plE y) es)).length ≤ 39 := capE_len (Nat.le_trans (erE_len _ _) h40)
    rw [r1, ix (by omega), addN]
    have i1 : vp_in (nI (capE (erE (plE y) es)).length) 40 := inb (by omega) (by omega)
    refine ⟨i1, i1, i1, hq _ ⟨⟨?_, ?_, ?_⟩, fun k hk => ?_, ?_⟩, k3.1⟩
    · unfold addE
      rw [List.length_append, hI_s]
      rfl
    · unfold addE
      rw [List.length_append]
      show (capE (erE (plE y) es)).length + 1 ≤ 40
      omega
    · refine All_snoc r3 (fun j z hj c => ⟨?_, ?_, ?_, c.2.2.2⟩) ⟨?_, ?_, ?_, h12, ga, hg⟩
      · simp (disch := omega) only [hI_s, hI_k, hI_f, hI_sL, hL_sI, hL_s, hL_k, hL_f]
        exact c.1
      · simp (disch := omega) only [hI_s, hI_k, hI_f, hI_sL, hL_sI, hL_s, hL_k, hL_f]
        exact c.2.1
      · simp (disch := omega) only [hI_s, hI_k, hI_f, hI_sL, hL_sI, hL_s, hL_k, hL_f]
        exact c.2.2.1
      · simp (disch := omega) only [hI_s, hI_k, hI_f, hI_sL, hL_sI, hL_s, hL_k, hL_f]
      · simp (disch := omega) only [hI_s, hI_k, hI_f, hI_sL, hL_sI, hL_s, hL_k, hL_f]
      · simp (disch := omega) only [hI_s, hI_k, hI_f, hI_sL, hL_sI, hL_s, hL_k, hL_f]
    · rw [hI_k _ _ _ _ hk]
      simp (disch := omega) only [hI_s, hI_k, hI_f, hI_sL, hL_sI, hL_s, hL_k, hL_f]
      exact k2 k hk
    · exact (((k3.sI (f := 15) ⟨rfl, by omega⟩ _ _).sL (f := 16) ⟨rfl, by omega⟩ _ _).sI (f := 17) ⟨rfl, by omega⟩ _ _).sI (f := 8) ⟨rfl, by omega⟩ _ _
  -- one entry of the place has gone
  have mid : ∀ h, EnsC h 0 (erE (plE y) es) → (∀ k, k ≠ 7 → hI h 8 0 k = hI σ 8 0 k) → Fr SEn σ h → ((hI h 8 0 7 < nI 40 → vp_in (hI h 8 0 7) 40 ∧ vp_in (hI h 8 0 7) 40 ∧ vp_in (hI h 8 0 7) 40 ∧ Q none (setI (setI (setL (setI h 15 0 (hI h 8 0 7).toNatClampNeg (nI y.1)) 16 0 (hI h 8 0 7).toNatClampNeg (lN (anC y.2.1))) 17 0 (hI h 8 0 7).toNatClampNeg (nI y.2.2)) 8 0 7 (hI h 8 0 7 + nI 1)) ∧ h.1 = σ.1) ∧ (¬ hI h 8 0 7 < nI 40 → CalV true (d + 1) 67 [vr 8 0, vi (nI 0)] h σ.1 (fun s4 => vp_in (hI s4 8 0 7) 40 ∧ vp_in (hI s4 8 0 7) 40 ∧ vp_in (hI s4 8 0 7) 40 ∧ Q none (setI (setI (setL (setI s4 15 0 (hI s4 8 0 7).toNatClampNeg (nI y.1)) 16 0 (hI s4 8 0 7).toNatClampNeg (lN (anC y.2.1))) 17 0 (hI s4 8 0 7).toNatClampNeg (nI y.2.2)) 8 0 7 (hI s4 8 0 7 + nI 1)) ∧ s4.1 = σ.1))) := by
    intro h k1 k2 k3
    have k1' := k1
    obtain ⟨r1, r2, r3⟩ := k1
    have lt : nI (erE (plE y) es).length < nI 40 ↔ (erE (plE y) es).length < 40 := ltN (by omega) (by omega)
    refine ⟨fun g => ?_, fun g => ?_⟩
    · rw [r1, lt] at g
      refine fin h ?_ k2 k3
      have e : capE (erE (plE y) es) = erE (plE y) es := if_neg (by omega)
      rw [e]
      exact k1'
    · rw [r1, lt] at g
      have e : capE (erE (plE y) es) = (erE (plE y) es).eraseIdx 0 := if_pos (by omega)
      refine cp_v (e_dropEntry d (r := 0) k1' (by omega)) k3.1 (fun h2 q2 e2 => ?_)
      rw [← e] at q2
      exact fin h2 q2.1 (fun k hk => (q2.2.1 k hk).trans (k2 k hk)) (k3.tr q2.2.2)
  refine wp_ok (cut := []) ma_66 rfl 38 _ _ _ _ ?_
  show CalI true (d + 1) 65 [vr 8 0, vi (nI y.1), vl (lN (anC y.2.1))] σ σ.1 (fun x2 s1 => CalV true (d + 1) 67 [vr 8 0, vi x2] s1 σ.1 (fun s3 => (((hI s3 8 0 7) < (nI 40) → (vp_in (hI s3 8 0 7) 40 ∧ (vp_in (hI s3 8 0 7) 40 ∧ (vp_in (hI s3 8 0 7) 40 ∧ (Q none (setI (setI (setL (setI s3 15 0 ((hI s3 8 0 7).toNatClampNeg) (nI y.1)) 16 0 ((hI s3 8 0 7).toNatClampNeg) (lN (anC y.2.1))) 17 0 ((hI s3 8 0 7).toNatClampNeg) (nI y.2.2)) 8 0 7 ((hI s3 8 0 7) + (nI 1))) ∧ s3.1 = σ.1))))) ∧ (¬ (hI s3 8 0 7) < (nI 40) → CalV true (d + 1) 67 [vr 8 0, vi (nI 0)] s3 σ.1 (fun s4 => (vp_in (hI s4 8 0 7) 40 ∧ (vp_in (hI s4 8 0 7) 40 ∧ (vp_in (hI s4 8 0 7) 40 ∧ (Q none (setI (setI (setL (setI s4 15 0 ((hI s4 8 0 7).toNatClampNeg) (nI y.1)) 16 0 ((hI s4 8 0 7).toNatClampNeg) (lN (anC y.2.1))) 17 0 ((hI s4 8 0 7).toNatClampNeg) (nI y.2.2)) 8 0 7 ((hI s4 8 0 7) + (nI 1))) ∧ s4.1 = σ.1)))))))))
  refine cal_i ew rfl ?_
  rcases enF_u (x := plE y) 0 hu with ⟨u1, u2⟩ | ⟨k, u1, u2, u3⟩
  · rw [u1]
    refine cal_v (e_dropNone d σ) rfl ?_
    exact mid σ (by rw [u2]; exact hr) (fun _ _ => rfl) (Fr.rfl' _ _)
  · rw [u2, Nat.zero_add]
    refine cp_v (e_dropEntry d (r := k) hr u1) rfl (fun h2 q2 e2 => ?_)
    rw [u3] at q2
    exact mid h2 q2.1 q2.2.1 q2.2.2
end
