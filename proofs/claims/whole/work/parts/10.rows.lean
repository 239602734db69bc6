/-! one instruction: the machine does what 'one' says -/
section ONE
variable {me : MEnt} {ini : Bool} {d : Nat} {p : Program} {l : Launch} {e : Env} {R : Room} {s : State} {m : MethodId} {args : Array Value} {below : List Frame} {meth : Method} {c : Code} {Qm : State → Prop} {D : va_G} {dT : Nat → ClassId} {z b n0 t0 : Nat} {md : Bool} {B : Nat × Nat × Nat} {Qa : Option AV → Hp → Prop} {pc len : Nat} {ls : Ls} {st : List AV} {σ : Hp} {K : Nat → Ls → List AV → Hp → Prop}
def WA (me : MEnt) (p : Program) (l : Launch) (e : Env) (R : Room) (s : State) (m : MethodId) (args : Array Value) (below : List Frame) (meth : Method) (c : Code) (Qm : State → Prop) (D : va_G) (dT : Nat → ClassId) (z b n0 t0 : Nat) (md : Bool) (pc : Nat) (ls : Ls) (st : List AV) (σ : Hp) : Prop :=
  ∀ (H : Heap) (locs : List Loc) (arr : Array Slot) (kc ks : Nat), HI md D dT z b σ s H → va_S (fun q => z < q) s.heap H locs → LsI z b me.2.2.1 arr ls → σ.1.1 = n0 + kc → σ.1.2.1 = t0 + ks → W p l e R s m args below meth c H locs kc ks Qm (F0 m pc arr (st.map (cvv z b)))
def HRet (me : MEnt) (p : Program) (l : Launch) (e : Env) (R : Room) (s : State) (m : MethodId) (args : Array Value) (below : List Frame) (meth : Method) (c : Code) (Qm : State → Prop) (D : va_G) (dT : Nat → ClassId) (z b n0 t0 : Nat) (md : Bool) (B : Nat × Nat × Nat) (Qa : Option AV → Hp → Prop) : Prop :=
  ∀ (r : Option AV) (σ' : Hp) (H : Heap) (locs : List Loc) (arr : Array Slot) (kc ks pc' : Nat) (ri : Instr), rIns me.2.2.2.1 ri r → decode me.2.1 pc' = .ok (ri, 1) → Qa r σ' → σ'.1 = B → HI md D dT z b σ' s H → va_S (fun q => z < q) s.heap H locs → σ'.1.1 = n0 + kc → σ'.1.2.1 = t0 + ks → W p l e R s m args below meth c H locs kc ks Qm (F0 m pc' arr ((r.map (cvv z b)).toList))
def SimI (i : Instr) : Bool := match i with
  | .iconst _ => true | .bipush _ => true | .sipush _ => true | .lconst _ => true | .ldc _ => true | .ldc2_w _ => true
  | .iload_n _ => true | .iload _ => true | .lload_n _ => true | .lload _ => true | .aload_n _ => true | .aload _ => true
  | .istore_n _ => true | .istore _ => true | .lstore_n _ => true | .lstore _ => true | .astore_n _ => true | .astore _ => true | .iinc _ _ => true
  | .iadd => true | .isub => true | .imul => true | .iand => true | .ior => true | .ixor => true | .idiv => true | .irem => true | .ishl => true | .ishr => true | .iushr => true
  | .land => true | .lor => true | .lshl => true | .lshr => true | .lushr => true | .lcmp => true | .i2l => true | .l2i => true | .i2c => true | .dup => true | .dup2 => true | .pop => true
  | .goto _ => true | .ifCond _ _ => true | .if_icmp _ _ => true | .ifnonnull _ => true | .tableswitch _ _ _ _ => true | .lookupswitch _ _ => true
  | _ => false
theorem tgts_at {pc : Nat} {x : Int32} {K : Nat → Prop} : ∀ (offs : List Int) (lo : Int) (j : Nat) (o : Int), tgts pc x K lo offs → offs[j]? = some o → x = Int32.ofInt (lo + j) → K (jmp pc o) := by
  intro offs
  induction offs with
  | nil => intro lo j o _ h; cases h
  | cons a t ih =>
    intro lo j o h hj hx
    cases j with
    | zero =>
      cases hj
      exact h.1 (by rw [hx]; simp)
    | succ j =>
      exact ih (lo + 1) j o h.2 hj (by rw [hx]; congr 1; omega)
theorem ofInt_toInt (x : Int32) : Int32.ofInt x.toInt = x := by simp
theorem ofInt_lit {a : Int} (h1 : -1000000 ≤ a) (h2 : a ≤ 1000000) : (Int32.ofInt a).toInt = a := by
  have e : (Int32.size : Int) = 4294967296 := rfl
  rw [Int32.toInt_ofInt]
  apply Int.bmod_eq_of_le <;> omega
set_option maxHeartbeats 4000000 in
theorem one_sim (X : Cx me ini d p R s m args meth c) {ins : Instr} (hsi : SimI ins = true) (hd : decode me.2.1 pc = .ok (ins, len)) (hln : lnOk pc ins len = true)
    (h : one md ini d B me.2.2.2.1 Qa me.2.2.2.2.1 ins pc ls st σ K) (hK : ∀ pc' ls' st' σ', K pc' ls' st' σ' → WA me p l e R s m args below meth c Qm D dT z b n0 t0 md pc' ls' st' σ') : WA me p l e R s m args below meth c Qm D dT z b n0 t0 md pc ls st σ := by
  obtain ⟨hx, hb, hml, hown, hts, hini, hfr, hlo, hdc⟩ := X
  intro H locs arr kc ks hH hS hLs hc hs
  cases ins with
  | iconst n =>
    obtain rfl : len = 1 := by simpa [lnOk] using hln
    exact lv_iconst hx hb hd rfl (hK _ _ _ _ h H locs arr kc ks hH hS hLs hc hs)
  | bipush n =>
    obtain rfl : len = 2 := by simpa [lnOk] using hln
    exact lv_bipush hx hb hd rfl (hK _ _ _ _ h H locs arr kc ks hH hS hLs hc hs)
  | sipush n =>
    obtain rfl : len = 3 := by simpa [lnOk] using hln
    exact lv_sipush hx hb hd rfl (hK _ _ _ _ h H locs arr kc ks hH hS hLs hc hs)
  | lconst n =>
    obtain rfl : len = 1 := by simpa [lnOk] using hln
    exact lv_lconst hx hb hd rfl (hK _ _ _ _ h H locs arr kc ks hH hS hLs hc hs)
  | ldc i =>
    obtain rfl : len = 2 := by simpa [lnOk] using hln
    cases hv : ick me.2.2.2.2.1 i with
    | none => simp only [one, hv] at h
    | some v =>
      simp only [one, hv] at h
      exact lv_ldc hx hb hown (hts _ (ick_w hv)) hd (hK _ _ _ _ h H locs arr kc ks hH hS hLs hc hs)
  | ldc2_w i =>
    obtain rfl : len = 3 := by simpa [lnOk] using hln
    cases hv : lck me.2.2.2.2.1 i with
    | none => simp only [one, hv] at h
    | some v =>
      simp only [one, hv] at h
      exact lv_ldc2 hx hb hown (hts _ (lck_w hv)) hd (hK _ _ _ _ h H locs arr kc ks hH hS hLs hc hs)
  | iload_n k =>
    obtain rfl : len = 1 := by simpa [lnOk] using hln
    simp only [one] at h
    split at h
    · rename_i x hl
      exact lv_iload_n hx hb hd rfl (hLs.2.2.2 _ _ hl) (hK _ _ _ _ h H locs arr kc ks hH hS hLs hc hs)
    · exact h.elim
  | iload k =>
    obtain rfl : len = 2 := by simpa [lnOk] using hln
    simp only [one] at h
    split at h
    · rename_i x hl
      exact lv_iload hx hb hd (hLs.2.2.2 _ _ hl) (hK _ _ _ _ h H locs arr kc ks hH hS hLs hc hs)
    · exact h.elim
  | lload_n k =>
    obtain rfl : len = 1 := by simpa [lnOk] using hln
    simp only [one] at h
    split at h
    · rename_i x hl
      exact lv_lload_n hx hb hd rfl (hLs.2.2.2 _ _ hl) (hK _ _ _ _ h H locs arr kc ks hH hS hLs hc hs)
    · exact h.elim
  | lload k =>
    obtain rfl : len = 2 := by simpa [lnOk] using hln
    simp only [one] at h
    split at h
    · rename_i x hl
      exact lv_lload hx hb hd (hLs.2.2.2 _ _ hl) (hK _ _ _ _ h H locs arr kc ks hH hS hLs hc hs)
    · exact h.elim
  | aload_n k =>
    obtain rfl : len = 1 := by simpa [lnOk] using hln
    simp only [one] at h
    split at h
    · rename_i x hl
      exact lv_aload_n hx hb hd rfl (hLs.2.2.2 _ _ hl) (hK _ _ _ _ h H locs arr kc ks hH hS hLs hc hs)
    · exact h.elim
  | aload k =>
    obtain rfl : len = 2 := by simpa [lnOk] using hln
    simp only [one] at h
    split at h
    · rename_i x hl
      exact lv_aload hx hb hd (hLs.2.2.2 _ _ hl) (hK _ _ _ _ h H locs arr kc ks hH hS hLs hc hs)
    · exact h.elim
  | istore_n k =>
    obtain rfl : len = 1 := by simpa [lnOk] using hln
    rcases st with _ | ⟨x | x | x, r⟩
    · exact False.elim h
    · simp only [one] at h
      cases hq : Nat.blt (k : Nat) ls.length with
      | false => rw [hq] at h; exact False.elim h
      | true =>
        rw [hq] at h
        have hlt : (k : Nat) < ls.length := by simpa using hq
        exact lv_istore_n (x := x) hx hb hd rfl (LsI_has hLs) (by rw [← hLs.2.2.1]; exact hlt) rfl (fun arr' ha => hK _ _ _ _ h H locs arr' kc ks hH hS (sto1_ok (v := vi x) hLs.2.2.1 ha) hc hs)
    · exact False.elim h
    · exact False.elim h
  | istore k =>
    obtain rfl : len = 2 := by simpa [lnOk] using hln
    rcases st with _ | ⟨x | x | x, r⟩
    · exact False.elim h
    · simp only [one] at h
      cases hq : Nat.blt k ls.length with
      | false => rw [hq] at h; exact False.elim h
      | true =>
        rw [hq] at h
        have hlt : k < ls.length := by simpa using hq
        exact lv_istore (x := x) hx hb hd (LsI_has hLs) (by rw [← hLs.2.2.1]; exact hlt) rfl (fun arr' ha => hK _ _ _ _ h H locs arr' kc ks hH hS (sto1_ok (v := vi x) hLs.2.2.1 ha) hc hs)
    · exact False.elim h
    · exact False.elim h
  | lstore_n k =>
    obtain rfl : len = 1 := by simpa [lnOk] using hln
    rcases st with _ | ⟨x | x | x, r⟩
    · exact False.elim h
    · exact False.elim h
    · simp only [one] at h
      cases hq : Nat.blt ((k : Nat) + 1) ls.length with
      | false => rw [hq] at h; exact False.elim h
      | true =>
        rw [hq] at h
        have hlt : (k : Nat) + 1 < ls.length := by simpa using hq
        exact lv_lstore_n (x := x) hx hb hd rfl (LsI_has hLs) (by rw [← hLs.2.2.1]; exact hlt) rfl (fun arr' ha => hK _ _ _ _ h H locs arr' kc ks hH hS (sto2_ok (v := vl x) hLs.2.2.1 ha) hc hs)
    · exact False.elim h
  | lstore k =>
    obtain rfl : len = 2 := by simpa [lnOk] using hln
    rcases st with _ | ⟨x | x | x, r⟩
    · exact False.elim h
    · exact False.elim h
    · simp only [one] at h
      cases hq : Nat.blt (k + 1) ls.length with
      | false => rw [hq] at h; exact False.elim h
      | true =>
        rw [hq] at h
        have hlt : k + 1 < ls.length := by simpa using hq
        exact lv_lstore (x := x) hx hb hd (LsI_has hLs) (by rw [← hLs.2.2.1]; exact hlt) rfl (fun arr' ha => hK _ _ _ _ h H locs arr' kc ks hH hS (sto2_ok (v := vl x) hLs.2.2.1 ha) hc hs)
    · exact False.elim h
  | astore_n k =>
    obtain rfl : len = 1 := by simpa [lnOk] using hln
    rcases st with _ | ⟨x | x | _ | a, r⟩
    · exact False.elim h
    · exact False.elim h
    · exact False.elim h
    · exact False.elim h
    · simp only [one] at h
      cases hq : Nat.blt (k : Nat) ls.length with
      | false => rw [hq] at h; exact False.elim h
      | true =>
        rw [hq] at h
        have hlt : (k : Nat) < ls.length := by simpa using hq
        exact lv_astore_n (x := adr z b a) hx hb hd rfl (LsI_has hLs) (by rw [← hLs.2.2.1]; exact hlt) rfl (fun arr' ha => hK _ _ _ _ h H locs arr' kc ks hH hS (sto1_ok (v := .inr (.inr (some a))) hLs.2.2.1 ha) hc hs)
  | astore k =>
    obtain rfl : len = 2 := by simpa [lnOk] using hln
    rcases st with _ | ⟨x | x | _ | a, r⟩
    · exact False.elim h
    · exact False.elim h
    · exact False.elim h
    · exact False.elim h
    · simp only [one] at h
      cases hq : Nat.blt k ls.length with
      | false => rw [hq] at h; exact False.elim h
      | true =>
        rw [hq] at h
        have hlt : k < ls.length := by simpa using hq
        exact lv_astore (x := adr z b a) hx hb hd (LsI_has hLs) (by rw [← hLs.2.2.1]; exact hlt) rfl (fun arr' ha => hK _ _ _ _ h H locs arr' kc ks hH hS (sto1_ok (v := .inr (.inr (some a))) hLs.2.2.1 ha) hc hs)
  | iinc k n =>
    obtain rfl : len = 3 := by simpa [lnOk] using hln
    simp only [one] at h
    split at h
    · rename_i x hl
      obtain ⟨q, hq⟩ := List.getElem?_of_mem (prs_in (z := z) (b := b) hl)
      exact lv_iinc (x := x) (v := x + Int32.ofInt n) hx hb hd (LsI_has hLs) (k := q) hq rfl (by rw [← hLs.2.2.1]; exact (List.getElem?_eq_some_iff.mp hl).1) rfl (fun arr' ha => hK _ _ _ _ h H locs arr' kc ks hH hS (sto1_ok (v := vi (x + Int32.ofInt n)) hLs.2.2.1 ha) hc hs)
    · exact h.elim
  | iadd =>
    obtain rfl : len = 1 := by simpa [lnOk] using hln
    rcases st with _ | ⟨y | y | y, _ | ⟨x | x | x, r⟩⟩ <;> first | exact False.elim h | exact lv_iadd hx hb hd (hK _ _ _ _ h H locs arr kc ks hH hS hLs hc hs)
  | isub =>
    obtain rfl : len = 1 := by simpa [lnOk] using hln
    rcases st with _ | ⟨y | y | y, _ | ⟨x | x | x, r⟩⟩ <;> first | exact False.elim h | exact lv_isub hx hb hd (hK _ _ _ _ h H locs arr kc ks hH hS hLs hc hs)
  | imul =>
    obtain rfl : len = 1 := by simpa [lnOk] using hln
    rcases st with _ | ⟨y | y | y, _ | ⟨x | x | x, r⟩⟩ <;> first | exact False.elim h | exact lv_imul hx hb hd (hK _ _ _ _ h H locs arr kc ks hH hS hLs hc hs)
  | iand =>
    obtain rfl : len = 1 := by simpa [lnOk] using hln
    rcases st with _ | ⟨y | y | y, _ | ⟨x | x | x, r⟩⟩ <;> first | exact False.elim h | exact lv_iand hx hb hd (hK _ _ _ _ h H locs arr kc ks hH hS hLs hc hs)
  | ior =>
    obtain rfl : len = 1 := by simpa [lnOk] using hln
    rcases st with _ | ⟨y | y | y, _ | ⟨x | x | x, r⟩⟩ <;> first | exact False.elim h | exact lv_ior hx hb hd (hK _ _ _ _ h H locs arr kc ks hH hS hLs hc hs)
  | ixor =>
    obtain rfl : len = 1 := by simpa [lnOk] using hln
    rcases st with _ | ⟨y | y | y, _ | ⟨x | x | x, r⟩⟩ <;> first | exact False.elim h | exact lv_ixor hx hb hd (hK _ _ _ _ h H locs arr kc ks hH hS hLs hc hs)
  | ishl =>
    obtain rfl : len = 1 := by simpa [lnOk] using hln
    rcases st with _ | ⟨y | y | y, _ | ⟨x | x | x, r⟩⟩ <;> first | exact False.elim h | exact lv_ishl hx hb hd (hK _ _ _ _ h H locs arr kc ks hH hS hLs hc hs)
  | ishr =>
    obtain rfl : len = 1 := by simpa [lnOk] using hln
    rcases st with _ | ⟨y | y | y, _ | ⟨x | x | x, r⟩⟩ <;> first | exact False.elim h | exact lv_ishr hx hb hd (hK _ _ _ _ h H locs arr kc ks hH hS hLs hc hs)
  | land =>
    obtain rfl : len = 1 := by simpa [lnOk] using hln
    rcases st with _ | ⟨y | y | y, _ | ⟨x | x | x, r⟩⟩ <;> first | exact False.elim h | exact lv_land hx hb hd (hK _ _ _ _ h H locs arr kc ks hH hS hLs hc hs)
  | lor =>
    obtain rfl : len = 1 := by simpa [lnOk] using hln
    rcases st with _ | ⟨y | y | y, _ | ⟨x | x | x, r⟩⟩ <;> first | exact False.elim h | exact lv_lor hx hb hd (hK _ _ _ _ h H locs arr kc ks hH hS hLs hc hs)
  | idiv =>
    obtain rfl : len = 1 := by simpa [lnOk] using hln
    rcases st with _ | ⟨y | y | y, _ | ⟨x | x | x, r⟩⟩ <;> first | exact False.elim h | exact lv_idiv hx hb hd h.1 (hK _ _ _ _ h.2 H locs arr kc ks hH hS hLs hc hs)
  | irem =>
    obtain rfl : len = 1 := by simpa [lnOk] using hln
    rcases st with _ | ⟨y | y | y, _ | ⟨x | x | x, r⟩⟩ <;> first | exact False.elim h | exact lv_irem hx hb hd h.1 (hK _ _ _ _ h.2 H locs arr kc ks hH hS hLs hc hs)
  | iushr =>
    obtain rfl : len = 1 := by simpa [lnOk] using hln
    rcases st with _ | ⟨y | y | y, _ | ⟨x | x | x, r⟩⟩ <;> first | exact False.elim h | exact lv_iushr hx hb hd rfl (hK _ _ _ _ h H locs arr kc ks hH hS hLs hc hs)
  | lshl =>
    obtain rfl : len = 1 := by simpa [lnOk] using hln
    rcases st with _ | ⟨y | y | y, _ | ⟨x | x | x, r⟩⟩ <;> first | exact False.elim h | exact lv_lshl hx hb hd rfl (hK _ _ _ _ h H locs arr kc ks hH hS hLs hc hs)
  | lshr =>
    obtain rfl : len = 1 := by simpa [lnOk] using hln
    rcases st with _ | ⟨y | y | y, _ | ⟨x | x | x, r⟩⟩ <;> first | exact False.elim h | exact lv_lshr hx hb hd rfl (hK _ _ _ _ h H locs arr kc ks hH hS hLs hc hs)
  | lushr =>
    obtain rfl : len = 1 := by simpa [lnOk] using hln
    rcases st with _ | ⟨y | y | y, _ | ⟨x | x | x, r⟩⟩ <;> first | exact False.elim h | exact lv_lushr hx hb hd rfl (hK _ _ _ _ h H locs arr kc ks hH hS hLs hc hs)
  | lcmp =>
    obtain rfl : len = 1 := by simpa [lnOk] using hln
    rcases st with _ | ⟨y | y | y, _ | ⟨x | x | x, r⟩⟩ <;> first | exact False.elim h | exact W.lcmp hx hb hd (hK _ _ _ _ h H locs arr kc ks hH hS hLs hc hs)
  | i2l =>
    obtain rfl : len = 1 := by simpa [lnOk] using hln
    rcases st with _ | ⟨y | y | y, r⟩ <;> first | exact False.elim h | exact lv_i2l hx hb hd rfl (hK _ _ _ _ h H locs arr kc ks hH hS hLs hc hs)
  | l2i =>
    obtain rfl : len = 1 := by simpa [lnOk] using hln
    rcases st with _ | ⟨y | y | y, r⟩ <;> first | exact False.elim h | exact lv_l2i hx hb hd rfl (hK _ _ _ _ h H locs arr kc ks hH hS hLs hc hs)
  | i2c =>
    obtain rfl : len = 1 := by simpa [lnOk] using hln
    rcases st with _ | ⟨y | y | y, r⟩ <;> first | exact False.elim h | exact lv_i2c hx hb hd rfl (hK _ _ _ _ h H locs arr kc ks hH hS hLs hc hs)
  | dup =>
    obtain rfl : len = 1 := by simpa [lnOk] using hln
    rcases st with _ | ⟨y | y | y, r⟩ <;> first | exact False.elim h | exact lv_dup hx hb hd (by rw [cat_cvv]; rfl) (hK _ _ _ _ h H locs arr kc ks hH hS hLs hc hs)
  | dup2 =>
    obtain rfl : len = 1 := by simpa [lnOk] using hln
    rcases st with _ | ⟨y | y | y, r⟩
    · exact False.elim h
    · rcases r with _ | ⟨x | x | x, r⟩ <;> first | exact False.elim h | exact lv_dup2_11 hx hb hd (by rw [cat_cvv]; rfl) (by rw [cat_cvv]; rfl) (hK _ _ _ _ h H locs arr kc ks hH hS hLs hc hs)
    · exact lv_dup2_2 hx hb hd (by rw [cat_cvv]; rfl) (hK _ _ _ _ h H locs arr kc ks hH hS hLs hc hs)
    · exact False.elim h
  | pop =>
    obtain rfl : len = 1 := by simpa [lnOk] using hln
    rcases st with _ | ⟨y | y | y, r⟩ <;> first | exact False.elim h | exact lv_pop hx hb hd (by rw [cat_cvv]; rfl) (hK _ _ _ _ h H locs arr kc ks hH hS hLs hc hs)
  | goto o =>
    have hq : jpos pc o = true ∧ len = 3 := by simpa [lnOk] using hln
    obtain ⟨hj, rfl⟩ := hq
    exact lv_goto hx hb hd (jmp_ok hj) (hK _ _ _ _ h H locs arr kc ks hH hS hLs hc hs)
  | ifCond q o =>
    have hq : jpos pc o = true ∧ len = 3 := by simpa [lnOk] using hln
    obtain ⟨hj, rfl⟩ := hq
    rcases st with _ | ⟨y | y | y, r⟩
    · exact False.elim h
    · cases q with
      | eq => exact lv_if_eq hx hb hd (jmp_ok hj) (fun g => hK _ _ _ _ (h.1 g) H locs arr kc ks hH hS hLs hc hs) (fun g => hK _ _ _ _ (h.2 g) H locs arr kc ks hH hS hLs hc hs)
      | ne => exact lv_if_ne hx hb hd (jmp_ok hj) (fun g => hK _ _ _ _ (h.1 g) H locs arr kc ks hH hS hLs hc hs) (fun g => hK _ _ _ _ (h.2 g) H locs arr kc ks hH hS hLs hc hs)
      | lt => exact lv_if_lt hx hb hd (jmp_ok hj) (fun g => hK _ _ _ _ (h.1 g) H locs arr kc ks hH hS hLs hc hs) (fun g => hK _ _ _ _ (h.2 g) H locs arr kc ks hH hS hLs hc hs)
      | ge => exact lv_if_ge hx hb hd (jmp_ok hj) (fun g => hK _ _ _ _ (h.1 g) H locs arr kc ks hH hS hLs hc hs) (fun g => hK _ _ _ _ (h.2 g) H locs arr kc ks hH hS hLs hc hs)
      | gt => exact lv_if_gt hx hb hd (jmp_ok hj) (fun g => hK _ _ _ _ (h.1 g) H locs arr kc ks hH hS hLs hc hs) (fun g => hK _ _ _ _ (h.2 g) H locs arr kc ks hH hS hLs hc hs)
      | le => exact lv_if_le hx hb hd (jmp_ok hj) (fun g => hK _ _ _ _ (h.1 g) H locs arr kc ks hH hS hLs hc hs) (fun g => hK _ _ _ _ (h.2 g) H locs arr kc ks hH hS hLs hc hs)
    · exact False.elim h
    · exact False.elim h
  | if_icmp q o =>
    have hq : jpos pc o = true ∧ len = 3 := by simpa [lnOk] using hln
    obtain ⟨hj, rfl⟩ := hq
    rcases st with _ | ⟨y | y | y, _ | ⟨x | x | x, r⟩⟩
    · exact False.elim h
    · exact False.elim h
    · cases q with
      | eq => exact lv_icmp_eq hx hb hd (jmp_ok hj) (fun g => hK _ _ _ _ (h.1 g) H locs arr kc ks hH hS hLs hc hs) (fun g => hK _ _ _ _ (h.2 g) H locs arr kc ks hH hS hLs hc hs)
      | ne => exact lv_icmp_ne hx hb hd (jmp_ok hj) (fun g => hK _ _ _ _ (h.1 g) H locs arr kc ks hH hS hLs hc hs) (fun g => hK _ _ _ _ (h.2 g) H locs arr kc ks hH hS hLs hc hs)
      | lt => exact lv_icmp_lt hx hb hd (jmp_ok hj) (fun g => hK _ _ _ _ (h.1 g) H locs arr kc ks hH hS hLs hc hs) (fun g => hK _ _ _ _ (h.2 g) H locs arr kc ks hH hS hLs hc hs)
      | ge => exact lv_icmp_ge hx hb hd (jmp_ok hj) (fun g => hK _ _ _ _ (h.1 g) H locs arr kc ks hH hS hLs hc hs) (fun g => hK _ _ _ _ (h.2 g) H locs arr kc ks hH hS hLs hc hs)
      | gt => exact lv_icmp_gt hx hb hd (jmp_ok hj) (fun g => hK _ _ _ _ (h.1 g) H locs arr kc ks hH hS hLs hc hs) (fun g => hK _ _ _ _ (h.2 g) H locs arr kc ks hH hS hLs hc hs)
      | le => exact lv_icmp_le hx hb hd (jmp_ok hj) (fun g => hK _ _ _ _ (h.1 g) H locs arr kc ks hH hS hLs hc hs) (fun g => hK _ _ _ _ (h.2 g) H locs arr kc ks hH hS hLs hc hs)
    all_goals exact False.elim h
  | ifnonnull o =>
    have hq : jpos pc o = true ∧ len = 3 := by simpa [lnOk] using hln
    obtain ⟨hj, rfl⟩ := hq
    rcases st with _ | ⟨y | y | _ | ⟨f, q⟩, r⟩
    · exact False.elim h
    · exact False.elim h
    · exact False.elim h
    · exact lv_ifnonnullN hx hb hd (hK _ _ _ _ (h.2 rfl) H locs arr kc ks hH hS hLs hc hs)
    · exact lv_ifnonnull hx hb hd (jmp_ok hj) (hK _ _ _ _ (h.1 f q rfl) H locs arr kc ks hH hS hLs hc hs)
  | tableswitch dflt lo hi offs =>
    have hq : ((jpos pc dflt = true ∧ offs.toList.all (jpos pc) = true) ∧ hi = lo + (offs.toList.length : Int) - 1) ∧ -1000 ≤ lo ∧ hi ≤ 1000 := by
      simp only [lnOk, Bool.and_eq_true, decide_eq_true_eq] at hln
      exact ⟨hln.1.1, hln.1.2, hln.2⟩
    obtain ⟨⟨⟨hj, hjs⟩, hhi⟩, hl1, hl2⟩ := hq
    rcases st with _ | ⟨y | y | y, r⟩
    · exact False.elim h
    · by_cases g1 : y.toInt < lo
      · exact lv_tableOut hx hb hd (Or.inl g1) (jmp_ok hj) (hK _ _ _ _ (h.2 (Or.inl g1)) H locs arr kc ks hH hS hLs hc hs)
      · by_cases g2 : hi < y.toInt
        · exact lv_tableOut hx hb hd (Or.inr g2) (jmp_ok hj) (hK _ _ _ _ (h.2 (Or.inr g2)) H locs arr kc ks hH hS hLs hc hs)
        · have hlt : (y.toInt - lo).toNat < offs.toList.length := by omega
          obtain ⟨o, ho⟩ : ∃ o, offs.toList[(y.toInt - lo).toNat]? = some o := ⟨_, List.getElem?_eq_getElem hlt⟩
          have ho2 : offs[(y.toInt - lo).toNat]? = some o := by rw [← Array.getElem?_toList]; exact ho
          have hjo : jpos pc o = true := List.all_eq_true.mp hjs o (List.mem_of_getElem? ho)
          refine lv_tableIn hx hb hd g1 g2 ho2 (jmp_ok hjo) (hK _ _ _ _ ?_ H locs arr kc ks hH hS hLs hc hs)
          refine tgts_at offs.toList lo _ o h.1 ho ?_
          have e : lo + ((y.toInt - lo).toNat : Int) = y.toInt := by omega
          rw [e]
          exact (ofInt_toInt y).symm
    · exact False.elim h
    · exact False.elim h
  | lookupswitch dflt ps =>
    simp only [lnOk, Bool.and_eq_true] at hln
    obtain ⟨⟨hj, hps⟩, hord⟩ := hln
    rcases st with _ | ⟨y | y | y, r⟩
    · exact False.elim h
    · have key : ∀ (qs : List (Int × Int)), (qs.all fun q => jpos pc q.2 && decide (-1000000 ≤ q.1) && decide (q.1 ≤ 1000000)) = true → lkts pc y (fun t => K t ls r σ) dflt qs → jpos pc (Op.lookupswitch.offset qs dflt y.toInt) = true ∧ K (jmp pc (Op.lookupswitch.offset qs dflt y.toInt)) ls r σ := by
        intro qs
        induction qs with
        | nil =>
          intro _ hk
          exact ⟨hj, hk⟩
        | cons a t ih =>
          intro ha hk
          rw [List.all_cons, Bool.and_eq_true] at ha
          obtain ⟨ha1, ha2⟩ := ha
          simp only [Bool.and_eq_true, decide_eq_true_eq] at ha1
          obtain ⟨a1, a2⟩ := a
          have ea : (Int32.ofInt a1).toInt = a1 := ofInt_lit ha1.1.2 ha1.2
          by_cases hy : y = Int32.ofInt a1
          · have e1 : y.toInt = a1 := by rw [hy]; exact ea
            have e2 : Op.lookupswitch.offset ((a1, a2) :: t) dflt y.toInt = a2 := by rw [Op.lookupswitch.offset_cons, if_pos e1.symm]
            rw [e2]
            exact ⟨ha1.1.1, hk.1 hy⟩
          · rw [lv_osw hy ea]
            exact ih ha2 (hk.2 hy)
      obtain ⟨k1, k2⟩ := key ps.toList hps h
      exact lv_lookup hx hb hd hord rfl (jmp_ok k1) (hK _ _ _ _ k2 H locs arr kc ks hH hS hLs hc hs)
    · exact False.elim h
    · exact False.elim h
  | _ => cases hsi
end ONE
