/-! the class's Expansion.addPage: it runs the machine -/
def gP (P : Nat → List Line) : Prop := ∀ q, q < 12 → gPg (P q) ∧ (txPg (P q)).length ≤ 160
theorem OI_fr {σ h : Hp} {r q : Nat} {l : List Line} (hf : Fr (EF r) σ h) (k : OI σ q l) : OI h q l := by
  have ff : ∀ f, f ≤ 31 → hI h f q = hI σ f q ∧ hL h f q = hL σ f q := fun f hf2 => by
    have := hf.2 f q (fun w => by have := w.1; omega)
    exact ⟨this.1, this.2.1⟩
  exact OI_cong (fun k _ => by rw [(ff 21 (by omega)).1]) (fun f f1 f2 _ => ff f f2) k
theorem UwC_cong {h h' : Hp} {r : Nat} {st : XS} (e : hI h' 32 r 9 = hI h 32 r 9) (k : UwC h r st) : UwC h' r st := fun q hq => by rw [e]; exact k q hq
/-- behind addPage -/
def APost (σ : Hp) (P : Nat → List Line) (r : Nat) (u : Nat → Int32) (c0 : XS × XA) (rest : XS) (n0 : Nat) (h : Hp) : Prop := ∃ x, XC h r u x ∧ UwC h r rest ∧ Fr (EF r) σ h ∧ (rest ≠ [] → nOwn x.2.2.1 = n0) ∧ ((x.1 < 100 ∧ xTo P c0 (rest, x)) ∨ (100 ≤ x.1 ∧ ∃ st, xTo P c0 (st, x) ∧ xStep P (st, x) = none))
theorem xStep_l {P : Nat → List Line} {p add : Nat} {rest : XS} {x : XA} {dl rl : List Line} {l : Line} (e : P p = dl ++ l :: rl) (hx : x.1 < 100) : xStep P ((p, dl.length, add) :: rest, x) = some (xLine P p dl.length add rest l x) := by
  unfold xStep
  dsimp only
  rw [if_neg (by omega), e, List.getElem?_append_right (Nat.le_refl _), Nat.sub_self]
  rfl
theorem xStep_e {P : Nat → List Line} {p add : Nat} {rest : XS} {x : XA} (hx : x.1 < 100) : xStep P ((p, (P p).length, add) :: rest, x) = some (rest, x) := by
  unfold xStep
  dsimp only
  rw [if_neg (by omega), List.getElem?_eq_none (Nat.le_refl _)]
theorem xStep_h {P : Nat → List Line} {p j add : Nat} {rest : XS} {x : XA} (hx : 100 ≤ x.1) : xStep P ((p, j, add) :: rest, x) = none := by
  unfold xStep
  dsimp only
  rw [if_pos hx]
theorem nI_m1 {v : Nat} (h : v < 2147483648) : ¬ nI v = (-1) := by
  intro e
  have := congrArg Int32.toInt e
  rw [nI_toInt h] at this
  have e2 : (-1 : Int32).toInt = -1 := by decide
  omega
section
variable {σ : Hp} {P : Nat → List Line} {r : Nat} {u : Nat → Int32} {Q : Option AV → Hp → Prop}
theorem s_apExit {D : Nat} (hr : r < 12) {p add dep : Int32} {pp : Nat} (hpp : pp < 12) (ep : p = nI pp) {c0 : XS × XA} {rest : XS} {n0 : Nat} {x : XA} {h : Hp} {x6 x7 : Int32} (hn : onSt pp rest = false) {j aa : Nat} (hx : XC h r u x) (hu : UwC h r ((pp, j, aa) :: rest)) (hf : Fr (EF r) σ h) (hno : rest ≠ [] → nOwn x.2.2.1 = n0) (hd : (x.1 < 100 ∧ xTo P c0 (rest, x)) ∨ (100 ≤ x.1 ∧ ∃ st, xTo P c0 (st, x) ∧ xStep P (st, x) = none)) (hq : ∀ h, APost σ P r u c0 rest n0 h → Q none h) : Sat true D 9 σ.1 Q 187 [some (vr 32 r), some (vr 18 0), some (vi p), some (vi add), some (vi dep), some (vr 21 pp), some (vi x6), some (vi x7), none] [] h := by
  subst ep
  refine wp_ok (cut := []) ma_9 rfl 11 _ _ _ _ ?_
  show (r < 12 ∧ (r < 12 ∧ (Q none (setI h 32 r 9 ((hI h 32 r 9) &&& (((nI 1) <<< ((nI pp) &&& 31)) ^^^ (-1)))) ∧ h.1 = σ.1)))
  refine ⟨hr, hr, hq _ ⟨x, ?_, ?_, hf.sI (f := 32) ⟨by omega, rfl⟩ _ _, hno, hd⟩, hf.1⟩
  · obtain ⟨a1, a2, ⟨a3, a4, a5⟩, a6, a7, a8⟩ := hx
    refine ⟨by simp (disch := omega) only [hI_s, hI_k, hI_f, hI_sL, hL_sI, hL_s, hL_k, hL_f]; exact a1, by simp (disch := omega) only [hI_s, hI_k, hI_f, hI_sL, hL_sI, hL_s, hL_k, hL_f]; exact a2, ⟨by simp (disch := omega) only [hI_s, hI_k, hI_f, hI_sL, hL_sI, hL_s, hL_k, hL_f]; exact a3, a4, ?_⟩, by simp (disch := omega) only [hI_s, hI_k, hI_f, hI_sL, hL_sI, hL_s, hL_k, hL_f]; exact a6, by simp (disch := omega) only [hI_s, hI_k, hI_f, hI_sL, hL_sI, hL_s, hL_k, hL_f]; exact a7, a8⟩
    exact All_mo a5 fun j y _ k => ⟨by simp (disch := omega) only [hI_s, hI_k, hI_f, hI_sL, hL_sI, hL_s, hL_k, hL_f]; exact k.1, by simp (disch := omega) only [hI_s, hI_k, hI_f, hI_sL, hL_sI, hL_s, hL_k, hL_f]; exact k.2.1, k.2.2.1, by simp (disch := omega) only [hI_s, hI_k, hI_f, hI_sL, hL_sI, hL_s, hL_k, hL_f]; exact k.2.2.2.1, k.2.2.2.2⟩
  · intro q hq12
    rw [hI_s]
    show bt (hI h 32 r 9 &&& (bit pp ^^^ (-1))) q = _
    rw [bt_not _ _ (by omega), hu q hq12, bt_bit pp hpp q (by omega), onSt_cons]
    by_cases e : q = pp
    · subst e
      rw [decide_eq_true rfl, hn, Bool.not_true, Bool.and_false]
    · rw [decide_eq_false e, Bool.not_false, Bool.and_true]
      have : Nat.beq pp q = false := by
        cases w : Nat.beq pp q with
        | false => rfl
        | true => exact absurd (Nat.eq_of_beq_eq_true w).symm e
      rw [this, Bool.false_or]
end
