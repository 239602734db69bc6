/-! the class's Outline: a page read -/
def isHd (l : Line) : Nat := match l with
  | .inl _ => 1
  | _ => 0
def nHd : List Line → Nat
  | [] => 0
  | l :: r => isHd l + nHd r
theorem nil_or_sn {α : Type} (l : List α) : l = [] ∨ ∃ a s, l = a ++ [s] := by
  rcases List.eq_nil_or_concat l with e | ⟨a, s, e⟩
  · exact Or.inl e
  · exact Or.inr ⟨a, s, by rw [e, List.concat_eq_append]⟩
theorem grow_len (sc : List (Nat × Nat)) (w : List Nat) : (grow sc w).length = sc.length := by
  rcases nil_or_sn sc with e | ⟨a, s, e⟩
  · rw [e]; rfl
  · rw [e, grow_sn, List.length_append, List.length_append]; rfl
theorem stS_len (sc : List (Nat × Nat)) (l : Line) : (stS sc l).length = sc.length + isHd l := by
  rcases l with vw | qs | es
  · show (sc ++ [(0, 7)]).length = _; rw [List.length_append]; rfl
  · exact grow_len sc _
  · exact grow_len sc _
theorem secs_len : ∀ (ls : List Line) (sc : List (Nat × Nat)), (ls.foldl stS sc).length = sc.length + nHd ls := by
  intro ls
  induction ls with
  | nil => intro sc; rfl
  | cons l r ih =>
    intro sc
    rw [List.foldl_cons, ih, stS_len]
    show _ = sc.length + (isHd l + nHd r)
    omega
theorem nHd_b : ∀ {ls : List Line}, gPg ls → 3 * nHd ls ≤ (txPg ls).length + 1 := by
  intro ls
  induction ls with
  | nil => intro _; exact Nat.zero_le _
  | cons l r ih =>
    intro h
    have h1 := txLine_len (h l List.mem_cons_self)
    have h2 := ih fun x hx => h x (List.mem_cons_of_mem _ hx)
    have h3 : 3 * isHd l ≤ (txLine l).length + 1 := by
      rcases l with ⟨v, w⟩ | qs | es
      · show 3 * 1 ≤ (List.replicate v 61 ++ w).length + 1
        obtain ⟨g1, g2, g3⟩ := h _ List.mem_cons_self
        have := txName_len g3
        rw [List.length_append, List.length_replicate]
        omega
      · exact Nat.zero_le _
      · exact Nat.zero_le _
    cases r with
    | nil =>
      show 3 * (isHd l + 0) ≤ (txLine l).length + 1
      omega
    | cons a b =>
      have e1 : (txPg (l :: a :: b)).length = (txLine l).length + ((txPg (a :: b)).length + 1) := by
        rw [txPg_cons l (fun q => by cases q), List.length_append, List.length_cons]
      have e2 : nHd (l :: a :: b) = isHd l + nHd (a :: b) := rfl
      omega
theorem nHd_app (a b : List Line) : nHd (a ++ b) = nHd a + nHd b := by
  induction a with
  | nil => show nHd b = 0 + nHd b; omega
  | cons l r ih =>
    show isHd l + nHd (r ++ b) = (isHd l + nHd r) + nHd b
    omega
theorem secs_b : ∀ (ls : List Line) (sc : List (Nat × Nat)) (n : Nat), (∀ s ∈ sc, s.1 ≤ n ∧ s.2 < 1000003) → ∀ s ∈ ls.foldl stS sc, s.1 ≤ n + ls.length ∧ s.2 < 1000003 := by
  intro ls
  induction ls with
  | nil => intro sc n h s hs; exact h s hs
  | cons l r ih =>
    intro sc n h s hs
    have hg : ∀ w, ∀ s ∈ grow sc w, s.1 ≤ n + 1 ∧ s.2 < 1000003 := by
      intro w s hs
      rcases nil_or_sn sc with e | ⟨a, s', e⟩
      · rw [e] at hs; cases hs
      · rw [e, grow_sn] at hs
        rcases List.mem_append.mp hs with q | q
        · have := h s (by rw [e]; exact List.mem_append.mpr (Or.inl q)); omega
        · have := h s' (by rw [e]; exact List.mem_append.mpr (Or.inr List.mem_cons_self))
          rw [List.mem_singleton.mp q]
          exact ⟨by show s'.1 + 1 ≤ n + 1; omega, dg_lt _ _⟩
    have := ih (stS sc l) (n + 1) (fun s hs => by
      rcases l with vw | qs | es
      · rcases List.mem_append.mp hs with q | q
        · have := h s q; omega
        · rw [List.mem_singleton.mp q]; exact ⟨by show 0 ≤ n + 1; omega, by decide⟩
      · exact hg _ s hs
      · exact hg _ s hs) s hs
    rw [List.length_cons]
    omega
theorem secs_bd {ls : List Line} {s : Nat × Nat} (h : s ∈ secs ls) : s.1 ≤ ls.length ∧ s.2 < 1000003 := by
  have := secs_b ls [] 0 (fun s hs => by cases hs) s h
  omega
theorem fold_sn {α β : Type} (f : β → α → β) (b : β) (l : List α) (x : α) : (l ++ [x]).foldl f b = f (l.foldl f b) x := by rw [List.foldl_append]; rfl
def OutF (p f i : Nat) : Prop := (21 ≤ f ∧ f ≤ 31) ∧ i = p
def SecR (σ : Hp) (p j : Nat) (s : Nat × Nat) : Prop := hI σ 30 p j = nI s.1 ∧ hI σ 31 p j = nI s.2
def OI (h : Hp) (p : Nat) (dl : List Line) : Prop := hI h 21 p 0 = nI p ∧ hI h 21 p 1 = nI dl.length ∧ All dl (KindC h p) ∧ hI h 21 p 6 = nI (nInc dl) ∧ hI h 21 p 7 = mInc dl ∧ hI h 21 p 13 = nI (secs dl).length ∧ All (secs dl) (SecR h p)
theorem txLine_s {l : Line} (h : gLine l) : ∀ y ∈ txLine l, y < 128 ∧ y ≠ 59 := by
  rcases l with ⟨v, w⟩ | ⟨q, s⟩ | es
  · intro y hy
    rcases List.mem_append.mp hy with e | e
    · rw [(List.mem_replicate.mp e).2]; decide
    · have := sm_rest (gName_r h.2.2).1 y e; omega
  · obtain ⟨h1, h2⟩ := h
    intro y hy
    cases s with
    | none =>
      have hy : y ∈ [123, 65 + q, 125] := hy
      simp only [List.mem_cons, List.not_mem_nil, or_false] at hy
      omega
    | some z =>
      have := h2 z rfl
      have hy : y ∈ [123, 65 + q, 43, 48 + z, 125] := hy
      simp only [List.mem_cons, List.not_mem_nil, or_false] at hy
      omega
  · have el : ∀ e, gEl e → ∀ y ∈ txEl e, y < 128 ∧ y ≠ 59 := by
      intro e ge y hy
      rcases e with w | ⟨l, a⟩
      · have := sm_rest (gName_r ge).1 y hy; omega
      · rcases List.mem_cons.mp hy with q | q
        · rw [q]; decide
        · rcases List.mem_append.mp q with q | q
          · rcases List.mem_append.mp q with q | q
            · cases l with
              | none => cases q
              | some p =>
                have := ge.1 p rfl
                rw [List.mem_singleton.mp q]; omega
            · cases a with
              | none => cases q
              | some x =>
                rcases List.mem_cons.mp q with e | e
                · rw [e]; decide
                · have := txAnc_s (ge.2.1 x rfl) y e; omega
          · rw [List.mem_singleton.mp q]; decide
    obtain ⟨hn, hg⟩ := h
    clear hn
    show ∀ y ∈ txEls es, y < 128 ∧ y ≠ 59
    induction es with
    | nil => intro y hy; cases hy
    | cons e r ih =>
      intro y hy
      cases r with
      | nil => exact el e (hg e List.mem_cons_self) y hy
      | cons f r' =>
        have hy : y ∈ txEl e ++ 44 :: txEls (f :: r') := hy
        rcases List.mem_append.mp hy with q | q
        · exact el e (hg e List.mem_cons_self) y q
        · rcases List.mem_cons.mp q with q | q
          · rw [q]; decide
          · exact ih (fun x hx => hg x (List.mem_cons_of_mem _ hx)) y q
theorem KindC_cong {h h' : Hp} {p j : Nat} {l : Line} (a : hI h' 22 p j = hI h 22 p j) (b : hL h' 23 p j = hL h 23 p j) (c : hI h' 24 p j = hI h 24 p j) (e : hI h' 25 p j = hI h 25 p j) (k : KindC h p j l) : KindC h' p j l := by
  rcases l with ⟨v, w⟩ | ⟨q, s⟩ | es
  · exact ⟨a.trans k.1, b.trans k.2⟩
  · exact ⟨a.trans k.1, c.trans k.2.1, e.trans k.2.2⟩
  · exact a.trans k
/-- the first sign of a line -/
theorem first_p {es : List Elem} (h : gLine (.inr (.inr es))) : ∃ c r, txEls es = c :: r ∧ c ≠ 61 ∧ c ≠ 123 ∧ c < 128 := by
  obtain ⟨hn, hg⟩ := h
  have one : ∀ e, gEl e → ∃ c r, txEl e = c :: r ∧ c ≠ 61 ∧ c ≠ 123 ∧ c < 128 := by
    intro e ge
    rcases e with w | ⟨l, a⟩
    · obtain ⟨c, r, e, ⟨c1, c2⟩, _⟩ := ge
      exact ⟨c, r, e, by omega, by omega, by omega⟩
    · exact ⟨91, _, rfl, by decide, by decide, by decide⟩
  cases es with
  | nil => exact absurd rfl hn
  | cons e r =>
    obtain ⟨c, r1, h1, h2⟩ := one e (hg e List.mem_cons_self)
    cases r with
    | nil => exact ⟨c, r1, h1, h2⟩
    | cons f r' =>
      refine ⟨c, r1 ++ 44 :: txEls (f :: r'), ?_, h2⟩
      show txEl e ++ 44 :: txEls (f :: r') = _
      rw [h1]
      rfl
/-- behind addLine: one line more, but for the count -/
def OL (σ h : Hp) (p : Nat) (dl : List Line) (l : Line) : Prop := hI h 21 p 1 = nI dl.length ∧ OI (setI h 21 p 1 (nI (dl.length + 1))) p (dl ++ [l]) ∧ hI h 21 p 8 = hI σ 21 p 8 ∧ Fr (OutF p) σ h
theorem OL_of {σ h : Hp} {p : Nat} {dl : List Line} {l : Line} (h0 : hI h 21 p 0 = nI p) (h1 : hI h 21 p 1 = nI dl.length) (hk : All dl (KindC h p)) (hl : KindC h p dl.length l) (h6 : hI h 21 p 6 = nI (stI (nInc dl) l)) (h7 : hI h 21 p 7 = stM (mInc dl) l) (h13 : hI h 21 p 13 = nI (stS (secs dl) l).length) (hs : All (stS (secs dl) l) (SecR h p)) (h8 : hI h 21 p 8 = hI σ 21 p 8) (hf : Fr (OutF p) σ h) : OL σ h p dl l := by
  refine ⟨h1, ⟨?_, ?_, ?_, ?_, ?_, ?_, ?_⟩, h8, hf⟩
  · rw [hI_k _ _ _ _ (by decide)]; exact h0
  · rw [hI_s, List.length_append]; rfl
  · exact All_snoc hk (fun j x _ k => KindC_cong rfl rfl rfl rfl k) (KindC_cong (h := h) rfl rfl rfl rfl hl)
  · rw [hI_k _ _ _ _ (by decide), h6]; unfold nInc; rw [fold_sn]
  · rw [hI_k _ _ _ _ (by decide), h7]; unfold mInc; rw [fold_sn]
  · rw [hI_k _ _ _ _ (by decide), h13]; unfold secs; rw [fold_sn]
  · unfold secs
    rw [fold_sn]
    exact hs
theorem e_addLine (d : Nat) {σ : Hp} {p o x : Nat} {dl : List Line} {l : Line} (hp : p < 12) (hi : OI σ p dl) (hl : gLine l) (hj : dl.length < 80) (hs : (secs dl).length + isHd l ≤ 53) (hx : x = o + (txLine l).length) (hN : x ≤ 1920) (ht : Tx (hI σ 9 0) o (txLine l)) : PV (d + 2) 23 [vr 21 p, vr 9 0, vi (nI o), vi (nI x)] σ (fun h => OL σ h p dl l) := by
  obtain ⟨h0, h1, hk, h6, h7, h13, hsc⟩ := hi
  have hlen := txLine_len hl
  have i1 : vp_in (nI o) 1920 := inb (by omega) (by omega)
  refine PV_of mt_23 (Nat.le_of_ble_eq_true rfl) fun Q hq => ?_
  rcases l with ⟨v, w⟩ | l2
  · obtain ⟨g1, g2, g3⟩ := hl
    have hs : (secs dl).length + 1 ≤ 53 := hs
    have t1 : hI σ 9 0 o = nI 61 := by
      obtain ⟨v', rfl⟩ : ∃ v', v = v' + 1 := ⟨v - 1, by omega⟩
      exact ht.1
    have hx : x = o + (List.replicate v 61 ++ w).length := hx
    rw [List.length_append, List.length_replicate] at hx
    refine wp_ok (cut := []) ma_23 rfl 25 _ _ _ _ ?_
    show (vp_in (nI o) 1920 ∧ ((¬ (hI σ 9 0 ((nI o).toNatClampNeg)) = (nI 61) → (vp_in (nI o) 1920 ∧ ((¬ (hI σ 9 0 ((nI o).toNatClampNeg)) = (nI 123) → (p < 12 ∧ (p < 12 ∧ (p < 12 ∧ (vp_in (hI σ 21 p 1) 80 ∧ (p < 12 ∧ (((hI σ 21 p 13) ≤ 0 → (Q none (setI σ 22 p ((hI σ 21 p 1).toNatClampNeg) (nI 0)) ∧ σ.1 = σ.1)) ∧ (¬ (hI σ 21 p 13) ≤ 0 → (p < 12 ∧ CalV true (d + 1) 27 [vr 21 p, vr 9 0, vi (nI o), vi (nI x)] (setI σ 22 p ((hI σ 21 p 1).toNatClampNeg) (nI 0)) σ.1 (fun s1 => (Q none s1 ∧ s1.1 = σ.1))))))))))) ∧ ((hI σ 9 0 ((nI o).toNatClampNeg)) = (nI 123) → (p < 12 ∧ CalV true (d + 1) 25 [vr 21 p, vr 9 0, vi (nI o), vi (nI x)] σ σ.1 (fun s2 => (p < 12 ∧ (((hI s2 21 p 13) ≤ 0 → (Q none s2 ∧ s2.1 = σ.1)) ∧ (¬ (hI s2 21 p 13) ≤ 0 → (p < 12 ∧ CalV true (d + 1) 27 [vr 21 p, vr 9 0, vi (nI o), vi (nI x)] s2 σ.1 (fun s3 => (Q none s3 ∧ s3.1 = σ.1)))))))))))) ∧ ((hI σ 9 0 ((nI o).toNatClampNeg)) = (nI 61) → (p < 12 ∧ CalV true (d + 1) 24 [vr 21 p, vr 9 0, vi (nI o), vi (nI x)] σ σ.1 (fun s4 => (Q none s4 ∧ s4.1 = σ.1))))))
    rw [ix (by omega), t1]
    refine ⟨i1, fun g => absurd rfl g, fun _ => ⟨hp, ?_⟩⟩
    refine cal_v (e_addHeading d σ hp hj (by omega) h1 h13 g3 g2 ht (by omega) hN) rfl ⟨hq _ ?_, rfl⟩
    refine OL_of ?_ ?_ ?_ ?_ ?_ ?_ ?_ ?_ ?_ ?_
    · simp (disch := omega) only [hI_s, hI_k, hI_f, hI_sL, hL_sI, hL_s, hL_k, hL_f]
      exact h0
    · simp (disch := omega) only [hI_s, hI_k, hI_f, hI_sL, hL_sI, hL_s, hL_k, hL_f]
      exact h1
    · exact All_mo hk fun j y hj k => KindC_cong (by simp (disch := omega) only [hI_s, hI_k, hI_f, hI_sL, hL_sI, hL_s, hL_k, hL_f]) (by simp (disch := omega) only [hI_s, hI_k, hI_f, hI_sL, hL_sI, hL_s, hL_k, hL_f]) (by simp (disch := omega) only [hI_s, hI_k, hI_f, hI_sL, hL_sI, hL_s, hL_k, hL_f]) (by simp (disch := omega) only [hI_s, hI_k, hI_f, hI_sL, hL_sI, hL_s, hL_k, hL_f]) k
    · exact ⟨by simp (disch := omega) only [hI_s, hI_k, hI_f, hI_sL, hL_sI, hL_s, hL_k, hL_f], by simp (disch := omega) only [hI_s, hI_k, hI_f, hI_sL, hL_sI, hL_s, hL_k, hL_f]⟩
    · simp (disch := omega) only [hI_s, hI_k, hI_f, hI_sL, hL_sI, hL_s, hL_k, hL_f]
      exact h6
    · simp (disch := omega) only [hI_s, hI_k, hI_f, hI_sL, hL_sI, hL_s, hL_k, hL_f]
      exact h7
    · simp (disch := omega) only [hI_s, hI_k, hI_f, hI_sL, hL_sI, hL_s, hL_k, hL_f]
      rw [stS_len]
      rfl
    · refine All_snoc hsc (fun j y hj k => ⟨?_, ?_⟩) ⟨?_, ?_⟩
      · simp (disch := omega) only [hI_s, hI_k, hI_f, hI_sL, hL_sI, hL_s, hL_k, hL_f]
        exact k.1
      · simp (disch := omega) only [hI_s, hI_k, hI_f, hI_sL, hL_sI, hL_s, hL_k, hL_f]
        exact k.2
      · simp (disch := omega) only [hI_s, hI_k, hI_f, hI_sL, hL_sI, hL_s, hL_k, hL_f]
      · simp (disch := omega) only [hI_s, hI_k, hI_f, hI_sL, hL_sI, hL_s, hL_k, hL_f]
    · simp (disch := omega) only [hI_s, hI_k, hI_f, hI_sL, hL_sI, hL_s, hL_k, hL_f]
    · exact ((((((Fr.rfl' (OutF p) σ).sI (f := 22) ⟨by omega, rfl⟩ _ _).sL (f := 23) ⟨by omega, rfl⟩ _ _).sI (f := 30) ⟨by omega, rfl⟩ _ _).sI (f := 31) ⟨by omega, rfl⟩ _ _).sI (f := 21) ⟨by omega, rfl⟩ _ _)
  · -- what follows for a line that is no heading
    have sm : small (txLine (.inr l2)) := fun y hy => (txLine_s hl y hy).1
    have grw : ∀ h, hI h 21 p 0 = nI p → hI h 21 p 1 = nI dl.length → All dl (KindC h p) → KindC h p dl.length (.inr l2) → hI h 21 p 6 = nI (stI (nInc dl) (.inr l2)) → hI h 21 p 7 = stM (mInc dl) (.inr l2) → hI h 21 p 13 = hI σ 21 p 13 → hI h 30 p = hI σ 30 p → hI h 31 p = hI σ 31 p → hI h 21 p 8 = hI σ 21 p 8 → Fr (OutF p) σ h → Sat true (d + 2) 23 σ.1 Q 44 [some (vr 21 p), some (vr 9 0), some (vi (nI o)), some (vi (nI x))] [] h := by
      intro h a0 a1 ak al a6 a7 a13 a30 a31 a8 af
      have t9 : Tx (hI h 9 0) o (txLine (.inr l2)) := by
        rw [(af.2 9 0 (fun q => by have := q.1; omega)).1]
        exact ht
      have es : stS (secs dl) (.inr l2) = grow (secs dl) (txLine (.inr l2)) := by rcases l2 with _ | _ <;> rfl
      refine wp_ok (cut := []) ma_23 rfl 9 _ _ _ _ ?_
      show (p < 12 ∧ (((hI h 21 p 13) ≤ 0 → (Q none h ∧ h.1 = σ.1)) ∧ (¬ (hI h 21 p 13) ≤ 0 → (p < 12 ∧ CalV true (d + 1) 27 [vr 21 p, vr 9 0, vi (nI o), vi (nI x)] h σ.1 (fun s1 => (Q none s1 ∧ s1.1 = σ.1))))))
      rw [a13, h13]
      refine ⟨hp, ?_⟩
      have hs : (secs dl).length + 0 ≤ 53 := by rcases l2 with _ | _ <;> exact hs
      refine br_le (b := 0) (by omega) (by omega) (fun g => ⟨hq _ (OL_of a0 a1 ak al a6 a7 ?_ ?_ a8 af), af.1⟩) (fun g => ⟨hp, ?_⟩)
      · rw [stS_len, a13, h13]; rcases l2 with _ | _ <;> rfl
      · have e0 : secs dl = [] := List.eq_nil_of_length_eq_zero (by omega)
        rw [es, e0]
        exact All_nil
      · rcases nil_or_sn (secs dl) with e | ⟨a, s, e⟩
        · rw [e] at g; cases g
        · have hms : s ∈ secs dl := by rw [e]; exact List.mem_append.mpr (Or.inr List.mem_cons_self)
          have hb := secs_bd hms
          have hla : (secs dl).length = a.length + 1 := by rw [e, List.length_append]; rfl
          obtain ⟨s1, s2⟩ := hsc a.length s (by rw [e, List.getElem?_append_right (Nat.le_refl _), Nat.sub_self]; rfl)
          have gs := e_growSection (d + 1) h (g := s.2) (c := nI s.1) (w := txLine (.inr l2)) hp (show a.length < 53 by omega) (by rw [a13, h13, hla]) (by rw [a31]; exact s2) hb.2 (by rw [a30]; exact s1) sm t9 hx hN
          refine cal_v gs af.1 ⟨hq _ ?_, af.1⟩
          refine OL_of ?_ ?_ ?_ ?_ ?_ ?_ ?_ ?_ ?_ ?_
          · simp (disch := omega) only [hI_s, hI_k, hI_f, hI_sL, hL_sI, hL_s, hL_k, hL_f]
            exact a0
          · simp (disch := omega) only [hI_s, hI_k, hI_f, hI_sL, hL_sI, hL_s, hL_k, hL_f]
            exact a1
          · exact All_mo ak fun j y hj k => KindC_cong (by simp (disch := omega) only [hI_s, hI_k, hI_f, hI_sL, hL_sI, hL_s, hL_k, hL_f]) (by simp (disch := omega) only [hI_s, hI_k, hI_f, hI_sL, hL_sI, hL_s, hL_k, hL_f]) (by simp (disch := omega) only [hI_s, hI_k, hI_f, hI_sL, hL_sI, hL_s, hL_k, hL_f]) (by simp (disch := omega) only [hI_s, hI_k, hI_f, hI_sL, hL_sI, hL_s, hL_k, hL_f]) k
          · exact KindC_cong (by simp (disch := omega) only [hI_s, hI_k, hI_f, hI_sL, hL_sI, hL_s, hL_k, hL_f]) (by simp (disch := omega) only [hI_s, hI_k, hI_f, hI_sL, hL_sI, hL_s, hL_k, hL_f]) (by simp (disch := omega) only [hI_s, hI_k, hI_f, hI_sL, hL_sI, hL_s, hL_k, hL_f]) (by simp (disch := omega) only [hI_s, hI_k, hI_f, hI_sL, hL_sI, hL_s, hL_k, hL_f]) al
          · simp (disch := omega) only [hI_s, hI_k, hI_f, hI_sL, hL_sI, hL_s, hL_k, hL_f]
            exact a6
          · simp (disch := omega) only [hI_s, hI_k, hI_f, hI_sL, hL_sI, hL_s, hL_k, hL_f]
            exact a7
          · simp (disch := omega) only [hI_s, hI_k, hI_f, hI_sL, hL_sI, hL_s, hL_k, hL_f]
            rw [stS_len, a13, h13]
            rcases l2 with _ | _ <;> rfl
          · rw [es, e, grow_sn]
            refine All_snoc (P := SecR σ p) (fun j y hy => hsc j y (by rw [e, List.getElem?_append_left (All_lt hy)]; exact hy)) (fun j y hj k => ⟨?_, ?_⟩) ⟨?_, ?_⟩
            · simp (disch := omega) only [hI_s, hI_k, hI_f, hI_sL, hL_sI, hL_s, hL_k, hL_f]
              rw [a30]
              exact k.1
            · simp (disch := omega) only [hI_s, hI_k, hI_f, hI_sL, hL_sI, hL_s, hL_k, hL_f]
              rw [a31]
              exact k.2
            · simp (disch := omega) only [hI_s, hI_k, hI_f, hI_sL, hL_sI, hL_s, hL_k, hL_f]
              rw [addN]
            · simp (disch := omega) only [hI_s, hI_k, hI_f, hI_sL, hL_sI, hL_s, hL_k, hL_f]
          · simp (disch := omega) only [hI_s, hI_k, hI_f, hI_sL, hL_sI, hL_s, hL_k, hL_f]
            exact a8
          · exact (af.sI (f := 31) ⟨by omega, rfl⟩ _ _).sI (f := 30) ⟨by omega, rfl⟩ _ _
    rcases l2 with ⟨q, s⟩ | es
    · obtain ⟨g1, g2⟩ := hl
      have t1 : hI σ 9 0 o = nI 123 := by cases s <;> exact ht.1
      refine wp_ok (cut := [44]) ma_23 rfl 16 _ _ _ _ ?_
      show (vp_in (nI o) 1920 ∧ ((¬ (hI σ 9 0 ((nI o).toNatClampNeg)) = (nI 61) → (vp_in (nI o) 1920 ∧ ((¬ (hI σ 9 0 ((nI o).toNatClampNeg)) = (nI 123) → (p < 12 ∧ (p < 12 ∧ (p < 12 ∧ (vp_in (hI σ 21 p 1) 80 ∧ Sat true (d + 2) 23 σ.1 Q 44 [some (vr 21 p), some (vr 9 0), some (vi (nI o)), some (vi (nI x))] [] (setI σ 22 p ((hI σ 21 p 1).toNatClampNeg) (nI 0))))))) ∧ ((hI σ 9 0 ((nI o).toNatClampNeg)) = (nI 123) → (p < 12 ∧ CalV true (d + 1) 25 [vr 21 p, vr 9 0, vi (nI o), vi (nI x)] σ σ.1 (fun s1 => Sat true (d + 2) 23 σ.1 Q 44 [some (vr 21 p), some (vr 9 0), some (vi (nI o)), some (vi (nI x))] [] s1)))))) ∧ ((hI σ 9 0 ((nI o).toNatClampNeg)) = (nI 61) → (p < 12 ∧ CalV true (d + 1) 24 [vr 21 p, vr 9 0, vi (nI o), vi (nI x)] σ σ.1 (fun s2 => (Q none s2 ∧ s2.1 = σ.1))))))
      rw [ix (by omega), t1]
      refine ⟨i1, fun _ => ⟨i1, fun g => absurd rfl g, fun _ => ⟨hp, ?_⟩⟩, fun g => absurd g (by decide)⟩
      refine cal_v (e_addInclude (d + 1) σ hp hj h1 h6 g1 g2 ht hx hN) rfl ?_
      refine grw _ ?_ ?_ ?_ ?_ ?_ ?_ ?_ ?_ ?_ ?_ ?_
      · simp (disch := omega) only [hI_s, hI_k, hI_f, hI_sL, hL_sI, hL_s, hL_k, hL_f]
        exact h0
      · simp (disch := omega) only [hI_s, hI_k, hI_f, hI_sL, hL_sI, hL_s, hL_k, hL_f]
        exact h1
      · exact All_mo hk fun j y hj k => KindC_cong (by simp (disch := omega) only [hI_s, hI_k, hI_f, hI_sL, hL_sI, hL_s, hL_k, hL_f]) (by simp (disch := omega) only [hI_s, hI_k, hI_f, hI_sL, hL_sI, hL_s, hL_k, hL_f]) (by simp (disch := omega) only [hI_s, hI_k, hI_f, hI_sL, hL_sI, hL_s, hL_k, hL_f]) (by simp (disch := omega) only [hI_s, hI_k, hI_f, hI_sL, hL_sI, hL_s, hL_k, hL_f]) k
      · exact ⟨by simp (disch := omega) only [hI_s, hI_k, hI_f, hI_sL, hL_sI, hL_s, hL_k, hL_f], by simp (disch := omega) only [hI_s, hI_k, hI_f, hI_sL, hL_sI, hL_s, hL_k, hL_f], by simp (disch := omega) only [hI_s, hI_k, hI_f, hI_sL, hL_sI, hL_s, hL_k, hL_f]⟩
      · simp (disch := omega) only [hI_s, hI_k, hI_f, hI_sL, hL_sI, hL_s, hL_k, hL_f]
        rfl
      · simp (disch := omega) only [hI_s, hI_k, hI_f, hI_sL, hL_sI, hL_s, hL_k, hL_f]
        rw [h7]
        rfl
      · simp (disch := omega) only [hI_s, hI_k, hI_f, hI_sL, hL_sI, hL_s, hL_k, hL_f]
      · simp (disch := omega) only [hI_s, hI_k, hI_f, hI_sL, hL_sI, hL_s, hL_k, hL_f]
      · simp (disch := omega) only [hI_s, hI_k, hI_f, hI_sL, hL_sI, hL_s, hL_k, hL_f]
      · simp (disch := omega) only [hI_s, hI_k, hI_f, hI_sL, hL_sI, hL_s, hL_k, hL_f]
      · exact (((((Fr.rfl' (OutF p) σ).sI (f := 22) ⟨by omega, rfl⟩ _ _).sI (f := 24) ⟨by omega, rfl⟩ _ _).sI (f := 25) ⟨by omega, rfl⟩ _ _).sI (f := 21) ⟨by omega, rfl⟩ _ _).sI (f := 21) ⟨by omega, rfl⟩ _ _
    · obtain ⟨c, r, ec, c1, c2, c3⟩ := first_p hl
      have t1 : hI σ 9 0 o = nI c := by
        have ht : Tx (hI σ 9 0) o (txEls es) := ht
        rw [ec] at ht
        exact ht.1
      refine wp_ok (cut := [44]) ma_23 rfl 16 _ _ _ _ ?_
      show (vp_in (nI o) 1920 ∧ ((¬ (hI σ 9 0 ((nI o).toNatClampNeg)) = (nI 61) → (vp_in (nI o) 1920 ∧ ((¬ (hI σ 9 0 ((nI o).toNatClampNeg)) = (nI 123) → (p < 12 ∧ (p < 12 ∧ (p < 12 ∧ (vp_in (hI σ 21 p 1) 80 ∧ Sat true (d + 2) 23 σ.1 Q 44 [some (vr 21 p), some (vr 9 0), some (vi (nI o)), some (vi (nI x))] [] (setI σ 22 p ((hI σ 21 p 1).toNatClampNeg) (nI 0))))))) ∧ ((hI σ 9 0 ((nI o).toNatClampNeg)) = (nI 123) → (p < 12 ∧ CalV true (d + 1) 25 [vr 21 p, vr 9 0, vi (nI o), vi (nI x)] σ σ.1 (fun s1 => Sat true (d + 2) 23 σ.1 Q 44 [some (vr 21 p), some (vr 9 0), some (vi (nI o)), some (vi (nI x))] [] s1)))))) ∧ ((hI σ 9 0 ((nI o).toNatClampNeg)) = (nI 61) → (p < 12 ∧ CalV true (d + 1) 24 [vr 21 p, vr 9 0, vi (nI o), vi (nI x)] σ σ.1 (fun s2 => (Q none s2 ∧ s2.1 = σ.1))))))
      rw [ix (by omega), t1, h1, ix (by omega)]
      refine ⟨i1, br_ne (by omega) (by omega) (fun _ => ⟨i1, br_ne (by omega) (by omega) (fun _ => ⟨hp, hp, hp, inb (by omega) (by omega), ?_⟩) (fun g => absurd g c2)⟩) (fun g => absurd g c1)⟩
      refine grw _ ?_ ?_ ?_ ?_ ?_ ?_ ?_ ?_ ?_ ?_ ?_
      · simp (disch := omega) only [hI_s, hI_k, hI_f, hI_sL, hL_sI, hL_s, hL_k, hL_f]
        exact h0
      · simp (disch := omega) only [hI_s, hI_k, hI_f, hI_sL, hL_sI, hL_s, hL_k, hL_f]
        exact h1
      · exact All_mo hk fun j y hj k => KindC_cong (by simp (disch := omega) only [hI_s, hI_k, hI_f, hI_sL, hL_sI, hL_s, hL_k, hL_f]) (by simp (disch := omega) only [hI_s, hI_k, hI_f, hI_sL, hL_sI, hL_s, hL_k, hL_f]) (by simp (disch := omega) only [hI_s, hI_k, hI_f, hI_sL, hL_sI, hL_s, hL_k, hL_f]) (by simp (disch := omega) only [hI_s, hI_k, hI_f, hI_sL, hL_sI, hL_s, hL_k, hL_f]) k
      · show hI (setI σ 22 p dl.length (nI 0)) 22 p dl.length = nI 0
        simp (disch := omega) only [hI_s, hI_k, hI_f, hI_sL, hL_sI, hL_s, hL_k, hL_f]
      · simp (disch := omega) only [hI_s, hI_k, hI_f, hI_sL, hL_sI, hL_s, hL_k, hL_f]
        exact h6
      · simp (disch := omega) only [hI_s, hI_k, hI_f, hI_sL, hL_sI, hL_s, hL_k, hL_f]
        exact h7
      · simp (disch := omega) only [hI_s, hI_k, hI_f, hI_sL, hL_sI, hL_s, hL_k, hL_f]
      · simp (disch := omega) only [hI_s, hI_k, hI_f, hI_sL, hL_sI, hL_s, hL_k, hL_f]
      · simp (disch := omega) only [hI_s, hI_k, hI_f, hI_sL, hL_sI, hL_s, hL_k, hL_f]
      · simp (disch := omega) only [hI_s, hI_k, hI_f, hI_sL, hL_sI, hL_s, hL_k, hL_f]
      · exact (Fr.rfl' (OutF p) σ).sI (f := 22) ⟨by omega, rfl⟩ _ _
