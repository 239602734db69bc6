/-! the class's Expansion.addHeading, isReplaced -/
def EF (r f i : Nat) : Prop := (32 ≤ f ∧ f ≤ 37) ∧ i = r
def hOf (u : Nat → Int32) (s : Option Nat) (k : Nat) : Nat → Int32 := match s with
  | none => u
  | some j => upd u j (nI k)
def HAdd (σ h : Hp) (r : Nat) (hs : List Hd) (x : Hd) : Prop := HsC h r (hs ++ [x]) ∧ hI h 37 r = hOf (hI σ 37 r) x.2.2.2 hs.length ∧ (∀ k, k ≠ 2 → hI h 32 r k = hI σ 32 r k) ∧ Fr (EF r) σ h
theorem neg6 : ((-6 : Int32) < 0) := by decide
set_option maxRecDepth 6000 in
theorem e_addHeadingX (d : Nat) {σ : Hp} {r L q : Nat} {s : Option Nat} {hs : List Hd} {w : List Nat} (hr : r < 12) (hh : HsC σ r hs) (hlen : hs.length < 100) (hw : gName w) (hs53 : ∀ j, s = some j → j < 53) : PV (d + 2) 11 [vr 32 r, vl (lN (nmC w)), vi (nI L), vi (nI q), vi (secI s)] σ (fun h => HAdd σ h r hs (L, q, (w, cntN w hs), s)) := by
  refine PV_of mt_11 (Nat.le_of_ble_eq_true rfl) fun Q hq => ?_
  have hh' := hh
  obtain ⟨h2, h100, ha⟩ := hh
  have c1 := cntN_le w hs
  have ga : gAnc (w, cntN w hs) := ⟨hw, by show cntN w hs ≤ 99; omega⟩
  have i1 : vp_in (nI hs.length) 100 := inb (by omega) (by omega)
  have hh2 : HsC (setI (setI σ 33 r hs.length (nI L)) 34 r hs.length (nI q)) r hs := by
    refine ⟨by simp (disch := omega) only [hI_s, hI_k, hI_f, hI_sL, hL_sI, hL_s, hL_k, hL_f]; exact h2, h100, All_mo ha fun j y hj k => ?_⟩
    obtain ⟨k1, k2, k3, k4, k5⟩ := k
    exact ⟨by simp (disch := omega) only [hI_s, hI_k, hI_f, hI_sL, hL_sI, hL_s, hL_k, hL_f]; exact k1, by simp (disch := omega) only [hI_s, hI_k, hI_f, hI_sL, hL_sI, hL_s, hL_k, hL_f]; exact k2, k3, by simp (disch := omega) only [hI_s, hI_k, hI_f, hI_sL, hL_sI, hL_s, hL_k, hL_f]; exact k4, k5⟩
  have fin : ∀ h, (∃ g, h = setI (arrI (setI (setL (setI (setI σ 33 r hs.length (nI L)) 34 r hs.length (nI q)) 35 r hs.length (lN (anC (w, cntN w hs)))) 36 r hs.length (secI s)) 37 r g) 32 r 2 (nI (hs.length + 1)) ∧ g = hOf (hI σ 37 r) s hs.length) → Q none h := by
    intro h hg
    obtain ⟨g, rfl, eg⟩ := hg
    refine hq _ ⟨⟨?_, ?_, ?_⟩, ?_, fun k hk => ?_, ?_⟩
    · rw [hI_s, List.length_append]; rfl
    · rw [List.length_append]; show hs.length + 1 ≤ 100; omega
    · refine All_snoc ha (fun j y hj k => ?_) ?_
      · obtain ⟨k1, k2, k3, k4, k5⟩ := k
        refine ⟨?_, ?_, ?_, ?_, k5⟩
        · simp (disch := omega) only [hI_s, hI_k, hI_f, hI_sL, hI_af]
          exact k1
        · simp (disch := omega) only [hI_s, hI_k, hI_f, hI_sL, hI_af]
          exact k2
        · show hL (setL (setI (setI σ 33 r hs.length (nI L)) 34 r hs.length (nI q)) 35 r hs.length (lN (anC (w, cntN w hs)))) 35 r j = _
          rw [hL_k _ _ _ _ (by omega)]
          exact k3
        · simp (disch := omega) only [hI_s, hI_k, hI_f, hI_sL, hI_af]
          exact k4
      · refine ⟨?_, ?_, ?_, ?_, ga⟩
        · simp (disch := omega) only [hI_s, hI_k, hI_f, hI_sL, hI_af]
        · simp (disch := omega) only [hI_s, hI_k, hI_f, hI_sL, hI_af]
        · exact hL_s _ _ _ _ _
        · simp (disch := omega) only [hI_s, hI_k, hI_f, hI_sL, hI_af]
    · rw [hI_f _ _ _ (Or.inl (by decide)), hI_a]
      exact eg
    · simp (disch := omega) only [hI_s, hI_k, hI_f, hI_sL, hI_af]
    · exact ((((((Fr.rfl' (EF r) σ).sI (f := 33) ⟨by omega, rfl⟩ _ _).sI (f := 34) ⟨by omega, rfl⟩ _ _).sL (f := 35) ⟨by omega, rfl⟩ _ _).sI (f := 36) ⟨by omega, rfl⟩ _ _).aI (f := 37) ⟨by omega, rfl⟩ _).sI (f := 32) ⟨by omega, rfl⟩ _ _
  refine wp_ok (cut := [60]) ma_11 rfl 32 _ _ _ _ ?_
  show (r < 12 ∧ (((hI σ 32 r 2) < (nI 100) → (r < 12 ∧ (r < 12 ∧ (r < 12 ∧ (vp_in (hI σ 32 r 2) 100 ∧ (r < 12 ∧ (r < 12 ∧ (r < 12 ∧ (vp_in (hI σ 32 r 2) 100 ∧ (r < 12 ∧ (r < 12 ∧ (r < 12 ∧ CalI true (d + 1) 12 [vr 32 r, vl (lN (nmC w))] (setI (setI σ 33 r ((hI σ 32 r 2).toNatClampNeg) (nI L)) 34 r ((hI σ 32 r 2).toNatClampNeg) (nI q)) σ.1 (fun x2 s1 => CalL true (d + 1) 1 [vl (lN (nmC w)), vi x2] s1 σ.1 (fun x4 s3 => (r < 12 ∧ (vp_in (hI σ 32 r 2) 100 ∧ (r < 12 ∧ (r < 12 ∧ (r < 12 ∧ (vp_in (hI s3 32 r 2) 100 ∧ Sat true (d + 2) 11 σ.1 Q 60 [some (vr 32 r), some (vl (lN (nmC w))), none, some (vi (nI L)), some (vi (nI q)), some (vi (secI s))] [] (setI (setL s3 35 r ((hI σ 32 r 2).toNatClampNeg) x4) 36 r ((hI s3 32 r 2).toNatClampNeg) (secI s)))))))))))))))))))))) ∧ (¬ (hI σ 32 r 2) < (nI 100) → (Q none σ ∧ σ.1 = σ.1))))
  simp only [hr, true_and]
  rw [h2, ix (by omega)]
  refine br_lt (by omega) (by omega) (fun _ => ⟨i1, i1, ?_⟩) (fun g => by omega)
  refine cal_i (e_headingsNamed d hr hh2 hw) rfl (cal_l (e_numbered (d + 1) _ hw (by omega)) rfl ?_)
  have e2 : hI (setI (setI σ 33 r hs.length (nI L)) 34 r hs.length (nI q)) 32 r 2 = nI hs.length := hh2.1
  rw [e2, ix (by omega)]
  refine ⟨i1, i1, ?_⟩
  have e3 : hI (setI (setL (setI (setI σ 33 r hs.length (nI L)) 34 r hs.length (nI q)) 35 r hs.length (lN (anC (w, cntN w hs)))) 36 r hs.length (secI s)) 32 r 2 = nI hs.length := by
    simp (disch := omega) only [hI_s, hI_k, hI_f, hI_sL, hL_sI, hL_s, hL_k, hL_f]
    exact h2
  have e4 : hI (setI (setL (setI (setI σ 33 r hs.length (nI L)) 34 r hs.length (nI q)) 35 r hs.length (lN (anC (w, cntN w hs)))) 36 r hs.length (secI s)) 37 r = hI σ 37 r := by
    simp (disch := omega) only [hI_s, hI_k, hI_f, hI_sL, hL_sI, hL_s, hL_k, hL_f]
  have e5 : (setI (setL (setI (setI σ 33 r hs.length (nI L)) 34 r hs.length (nI q)) 35 r hs.length (lN (anC (w, cntN w hs)))) 36 r hs.length (secI s)).1 = σ.1 := rfl
  generalize setI (setL (setI (setI σ 33 r hs.length (nI L)) 34 r hs.length (nI q)) 35 r hs.length (lN (anC (w, cntN w hs)))) 36 r hs.length (secI s) = t at fin e3 e4 e5 ⊢
  refine wp_ok (cut := []) ma_11 rfl 18 _ _ _ _ ?_
  show (((secI s) < 0 → (r < 12 ∧ (r < 12 ∧ (Q none (setI t 32 r 2 ((hI t 32 r 2) + (nI 1))) ∧ t.1 = σ.1)))) ∧ (¬ (secI s) < 0 → (((nI 53) ≤ (secI s) → (r < 12 ∧ (r < 12 ∧ (Q none (setI t 32 r 2 ((hI t 32 r 2) + (nI 1))) ∧ t.1 = σ.1)))) ∧ (¬ (nI 53) ≤ (secI s) → (r < 12 ∧ (r < 12 ∧ (r < 12 ∧ (vp_in (secI s) 53 ∧ (r < 12 ∧ (r < 12 ∧ (Q none (setI (setI t 37 r ((secI s).toNatClampNeg) (hI t 32 r 2)) 32 r 2 ((hI t 32 r 2) + (nI 1))) ∧ t.1 = σ.1)))))))))))
  simp only [hr, true_and]
  rw [e3, addN]
  cases s with
  | none =>
    refine ⟨fun _ => ⟨fin _ ⟨hI t 37 r, by rw [arrI_self], e4⟩, e5⟩, fun g => absurd neg6 g⟩
  | some j =>
    have hj := hs53 j rfl
    refine ⟨fun g => absurd ((ltN (a := j) (b := 0) (by omega) (by omega)).mp g) (by omega), fun _ => br_le (by omega) (by omega) (fun g => by omega) (fun _ => ?_)⟩
    have e6 : hI (setI t 37 r j (nI hs.length)) 32 r 2 = nI hs.length := by rw [hI_f _ _ _ (Or.inl (by decide))]; exact e3
    show vp_in (nI j) 53 ∧ _
    rw [show (secI (some j)).toNatClampNeg = j from ix (by omega)]
    refine ⟨inb (by omega) (by omega), fin _ ⟨upd (hI t 37 r) j (nI hs.length), ?_, by rw [e4]; rfl⟩, e5⟩
    rw [← arrI_setI, arrI_self]
