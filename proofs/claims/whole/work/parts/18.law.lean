/-! THE CLAIM OUT OF ONE WALK OF THE LAW'S BODY. Your part is whole_start (and what it stands on); all else here is the same for every law, but numbers. -/
def R_law : String := "LinkAuditorLaw"
def lw_P (b : Addr) (xs : List Int32) (args : Array Value) (s : State) : Prop := args = #[.ref b] ∧ s.IntsAt b xs ∧ xs.length ≤ 2048 ∧ (Jvm.Cond.and given_1 narrow_1).before args s = true
def lw_Q (_ : Array Value) (s : State) (o : Outcome) (t : State) : Prop := o = .returned (some (.int 1)) ∧ Framed s o t [] 600000 7302250
def lw_Z (below : List Frame) (a : Array Value) (s : State) : State → Prop := fun t => ∃ o, t.status = .running ∧ Ended t below o ∧ lw_Q a s o t
/-- the law's own end, with 1 on the stack, nothing written that was there before, its room as the claim has it -/
theorem lw_ret {p : Program} {l : Launch} {e : Env} {s : State} {m : MethodId} {below : List Frame} {meth : Method} {c : Code} {b : Nat} (hx : p.tables.exec = Jvm.exec) (hb : c.code = code) (hr : meth.sig.returnType = ret) (hlocks : meth.locks = false) {pc : Nat} {H : Heap} {ls : Array Slot} (hdg : decode code pc = .ok (.ireturn, 1)) : W p l e room_1 s m #[Value.ref b] below meth c H [] 600000 7302250 (lw_Z below #[Value.ref b] s) (F0 m pc ls [.int 1]) := by
  intro T hT X
  obtain ⟨fs, hret, hrun, hended, hW, hframe⟩ := X.leave (v := some (.int 1)) (hlocks := hlocks) (fun h => by rw [hr] at h; cases h)
  have hmeth' : T.vm.method? m = some meth := X.method'
  refine ⟨T.setFrames fs, ?_, .returned (some (.int 1)), hrun, hended, rfl, ⟨_, rfl⟩, hW, hframe⟩
  jvm_step X.here [X.here.top, hx, hb, hdg, hmeth', hr, ret, narrow_b1]
  (try refine ⟨rfl, ?_⟩); (try refine ⟨rfl, ?_⟩)
  first | (intro acts; rw [hret _ acts rfl rfl rfl]) | rw [hret _ _ rfl rfl rfl]
  exact Steps.refl _
/-- what holds at the law's entry: the machine, the code, the tables' words (any of lw_tbl by 'hts w (by decide +kernel)'), the script of L ints xs at the cell b, what the Statement gives of the start (any of its parts by flat_of_before) -/
def lw_At (p : Program) (s : State) (m : MethodId) (meth : Method) (c : Code) (b L : Nat) (xs : Nat → Int32) : Prop :=
  p.tables.exec = Jvm.exec ∧ c.code = code ∧ meth.sig.returnType = ret ∧ c.maxLocals = 4 ∧ s.vm.findClass R_law = some m.cls ∧ (∀ w ∈ lw_tbl, w.before #[Value.ref b] s = true) ∧ va_X b L xs s s.heap ∧ b < s.heap.size ∧ meth.locks = false ∧ (Jvm.Cond.and given_1 narrow_1).before #[Value.ref b] s = true
/-- the heap as the law finds it: the script alone -/
def sg0 (L : Nat) (xs : Nat → Int32) : Hp := ((1, 0, L), (fun f _ k => if f = 0 then xs k else 0), (fun _ _ _ => 0), (fun _ _ _ => none))
/-- what the law's walk must give -/
def LawSat : Prop := ∀ (L : Nat) (xs : Nat → Int32), L ≤ 2048 → ∃ B : Nat × Nat × Nat, B.1 ≤ 600001 ∧ B.2.1 ≤ 7302250 ∧ Sat false 40 204 B (fun r _ => r = some (vi 1)) 0 [some (vr 0 0), none, none, none] [] (sg0 L xs)
theorem law_words {args : Array Value} {s : State} (hts : ∀ w ∈ lw_tbl, w.before args s = true) : ∃ (D : va_G) (dT : Nat → ClassId), va_K D clsW (tysL dT) s := by
  have hw : ∀ w ∈ wT, w.before args s = true := fun w h => hts w (List.mem_filter.mp h).1
  have hk : ∀ ci : Nat, ∃ (cC : ClassId) (iS : Nat → Nat), ∀ q : vw_C, clsW[ci]? = some q → u_Kn s q.1 q.2.1 q.2.2 cC iS := by
    intro ci
    cases hq : clsW[ci]? with
    | none => exact ⟨0, fun _ => 0, fun q h => by cases h⟩
    | some q =>
      have hl : ci < 10 := (List.getElem?_eq_some_iff.mp hq).1
      by_cases h1 : 1 ≤ ci
      · obtain ⟨cC, iS, h⟩ := u_known (N := q.2.2) hw (cls_k hq h1).1 (hw _ (made_ok ci hl h1 q hq))
        exact ⟨cC, iS, fun q' h' => by cases h'; exact h⟩
      · obtain rfl : ci = 0 := by omega
        cases hq
        obtain ⟨cC, iS, h⟩ := u_known (N := 10) hw (cls_k (ci := 1) rfl (Nat.le_refl 1)).1 (hw _ (made_ok 1 (by omega) (Nat.le_refl 1) _ rfl))
        exact ⟨cC, iS, fun q' h' => by cases h'; exact h⟩
  have harr : ∀ t : FieldType, (∀ C, t ≠ .object C) → t ∈ slA_l → ∃ cA : ClassId, ArrOfT s cA t ∧ va_RA s cA t := by
    intro t hn ht
    obtain ⟨cA, kA, comp, f1, f2, f3⟩ := Cond.arrayClass_spec (hw _ (w_arr ht))
    refine ⟨cA, fun n z => ⟨(fun k h => by cases h), kA, f2, comp, f3⟩, ?_⟩
    cases t <;> first | exact f1 | exact absurd rfl (hn _)
  have hobj : ∀ C : String, FieldType.object C ∈ slO_l → ∃ cA : ClassId, ArrOfT s cA (.object C) ∧ va_RA s cA (.object C) := by
    intro C hC
    obtain ⟨comp, cA, kA, f1, f2, f3, f4, f5⟩ := Cond.arrayOver_spec (hw _ (w_over hC))
    exact ⟨cA, fun n z => ⟨(fun k h => by cases h), kA, f3, comp, f4⟩, kA, comp, f3, f4, f1, f5⟩
  obtain ⟨a0, h0⟩ := harr .int (fun C h => by cases h) (by decide)
  obtain ⟨a1, h1⟩ := harr .char (fun C h => by cases h) (by decide)
  obtain ⟨a2, h2⟩ := harr .long (fun C h => by cases h) (by decide)
  obtain ⟨a3, h3⟩ := hobj RX7 (by decide)
  obtain ⟨a4, h4⟩ := hobj RX3 (by decide)
  obtain ⟨a5, h5⟩ := hobj RX1 (by decide)
  refine ⟨(fun ci => Classical.choose (hk ci), fun ci => Classical.choose (Classical.choose_spec (hk ci))), fun k => match k with
    | 20 => a0 | 21 => a1 | 22 => a2 | 23 => a3 | 24 => a4 | _ => a5, fun ci q hq => Classical.choose_spec (Classical.choose_spec (hk ci)) q hq, fun k q hq => ?_⟩
  have hl : k < 6 := (List.getElem?_eq_some_iff.mp hq).1
  have hx : k = 0 ∨ k = 1 ∨ k = 2 ∨ k = 3 ∨ k = 4 ∨ k = 5 := by omega
  rcases hx with rfl | rfl | rfl | rfl | rfl | rfl
  · cases hq; exact h0
  · cases hq; exact h1
  · cases hq; exact h2
  · cases hq; exact h3
  · cases hq; exact h4
  · cases hq; exact h5
theorem whole_of (hlaw : LawSat) {p : Program} {e : Env} {s : State} {m : MethodId} {below : List Frame} {meth : Method} {c : Code} (l : Launch) {b L : Nat} {xs : Nat → Int32} (hL : L ≤ 2048) (C0 : lw_At p s m meth c b L xs) : W p l e room_1 s m #[Value.ref b] below meth c s.heap [] 0 0 (lw_Z below #[Value.ref b] s) (entryFrame m ([Value.ref b] : List Value).toArray 4) := by
  obtain ⟨hx, hb, hr, hml, hown, hts, hX, hbl, hlocks, hgv⟩ := C0
  obtain ⟨D, dT, hK⟩ := law_words hts
  obtain ⟨B, hB1, hB2, hsat⟩ := hlaw L xs hL
  obtain ⟨z, hz⟩ : ∃ z, s.heap.size = z + 1 := ⟨s.heap.size - 1, by omega⟩
  have hma : MA[204]? = some eLaw := by
    unfold MA
    have hl : MT.length = 204 := by decide +kernel
    rw [List.getElem?_append_right (by omega), hl]
    rfl
  have hent := lv_entry ([Value.ref b]) (n := 4) (Nat.le_of_ble_eq_true rfl)
  rw [lg_entry_eq]
  have hHI : HI false D dT z b (sg0 L xs) s s.heap := by
    refine ⟨hK, ?_, hz, fun f q k h21 => ?_, hX, by omega, Nat.le_refl 1, fun h => by cases h⟩
    · intro i q hq
      obtain ⟨hi, -⟩ := wsl_in hq
      have hi : i + 1 < 1 := hi
      omega
    · have hf : f ≠ 0 := fk_21 h21
      show fits .char (.int (if f = 0 then xs k else 0)) = true
      rw [if_neg hf]
      rfl
  refine hsat eLaw hma p l e room_1 s m _ below meth c _ D dT z b 1 0 ⟨hx, hb, hml, hown, fun w hw => hts w (List.mem_filter.mp hw).1, fun h => absurd h (by decide), by decide, by decide, mcl⟩ hB1 (by show B.2.1 ≤ 0 + 7302250; omega) (by omega) ?_ s.heap [] _ 0 0 hHI va_S.rf ⟨hent.1, hent.2.1, rfl, fun i v hiv => ?_⟩ rfl rfl
  · intro r σ' H locs arr kc ks pc' ri hri hd hQ hBe hH hS hc hs
    subst hQ
    have hri : ri = .ireturn := by
      obtain ⟨q, -⟩ : ri = .ireturn ∧ _ := hri
      exact q
    subst hri
    refine va_forget (fun q hq => ?_) ?_
    · have := hS.2.2 q hq
      show s.heap.size ≤ q.base
      omega
    · refine W.widen (k := 600000) (n := 7302250) ?_ ?_ (lw_ret hx hb hr hlocks hd)
      · rw [hBe] at hc; omega
      · rw [hBe] at hs; omega
  · have hx4 : i = 0 ∨ i = 1 ∨ i = 2 ∨ i = 3 := by
      have := (List.getElem?_eq_some_iff.mp hiv).1
      have : i < 4 := this
      omega
    rcases hx4 with rfl | rfl | rfl | rfl
    · cases hiv
      exact hent.2.2 (0, .ref b) (by simp [lv_args])
    · cases hiv
    · cases hiv
    · cases hiv
