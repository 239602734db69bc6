/-! pages as trees: name, anchor (name and number), element, line -/
abbrev Anc : Type := List Nat × Nat
abbrev Elem : Type := List Nat ⊕ (Option Nat × Option Anc)
abbrev Line : Type := (Nat × List Nat) ⊕ ((Nat × Option Nat) ⊕ List Elem)
def isLt (c : Nat) : Prop := 97 ≤ c ∧ c ≤ 122
def isDg (c : Nat) : Prop := 48 ≤ c ∧ c ≤ 57
def gRest (w : List Nat) : Prop := ∀ x ∈ w, isLt x ∨ isDg x
def gName (w : List Nat) : Prop := ∃ c r, w = c :: r ∧ isLt c ∧ gRest r ∧ r.length ≤ 7
def gAnc (a : Anc) : Prop := gName a.1 ∧ a.2 ≤ 99
def txNum (k : Nat) : List Nat := if k = 0 then [] else if k < 10 then [45, 48 + k] else [45, 48 + k / 10, 48 + k % 10]
def txAnc (a : Anc) : List Nat := a.1 ++ txNum a.2
def txLet (l : Option Nat) : List Nat := match l with
  | none => []
  | some p => [65 + p]
def txOpt (a : Option Anc) : List Nat := match a with
  | none => []
  | some a => 35 :: txAnc a
def txLink (l : Option Nat) (a : Option Anc) : List Nat := txLet l ++ txOpt a
def txEl (e : Elem) : List Nat := match e with
  | .inl w => w
  | .inr (l, a) => 91 :: (txLink l a ++ [93])
def txEls : List Elem → List Nat
  | [] => []
  | e :: r => match r with
    | [] => txEl e
    | _ :: _ => txEl e ++ 44 :: txEls r
def txInc (p : Nat) (s : Option Nat) : List Nat := match s with
  | none => [123, 65 + p, 125]
  | some s => [123, 65 + p, 43, 48 + s, 125]
def txLine (l : Line) : List Nat := match l with
  | .inl (v, w) => List.replicate v 61 ++ w
  | .inr (.inl (p, s)) => txInc p s
  | .inr (.inr es) => txEls es
def txPg : List Line → List Nat
  | [] => []
  | l :: r => match r with
    | [] => txLine l
    | _ :: _ => txLine l ++ 59 :: txPg r
def gEl (e : Elem) : Prop := match e with
  | .inl w => gName w
  | .inr (l, a) => (∀ p, l = some p → p < 12) ∧ (∀ x, a = some x → gAnc x) ∧ (l = none → a ≠ none)
def gLine (l : Line) : Prop := match l with
  | .inl (v, w) => 1 ≤ v ∧ v ≤ 3 ∧ gName w
  | .inr (.inl (p, s)) => p < 12 ∧ ∀ x, s = some x → x ≤ 2
  | .inr (.inr es) => es ≠ [] ∧ ∀ e ∈ es, gEl e
def gPg (ls : List Line) : Prop := ∀ l ∈ ls, gLine l
/-- the text t of n signs reads w from a to b -/
def Rd (t : Nat → Nat) (n a b : Nat) (w : List Nat) : Prop := sg t a w.length = w ∧ b = a + w.length ∧ b ≤ n
section
variable {t : Nat → Nat} {n : Nat}
theorem sg_add (t : Nat → Nat) : ∀ (m a k : Nat), sg t a (m + k) = sg t a m ++ sg t (a + m) k := by
  intro m
  induction m with
  | zero => intro a k; rw [Nat.zero_add]; rfl
  | succ m ih =>
    intro a k
    rw [show m + 1 + k = (m + k) + 1 by omega]
    show t a :: sg t (a + 1) (m + k) = t a :: sg t (a + 1) m ++ sg t (a + (m + 1)) k
    rw [ih (a + 1) k, show a + 1 + m = a + (m + 1) by omega]
    rfl
theorem Rd.app {a b c : Nat} {w v : List Nat} (h : Rd t n a b w) (g : Rd t n b c v) : Rd t n a c (w ++ v) := by
  obtain ⟨h1, h2, h3⟩ := h
  obtain ⟨g1, g2, g3⟩ := g
  subst h2
  refine ⟨?_, ?_, g3⟩
  · rw [List.length_append, sg_add, h1, g1]
  · rw [List.length_append]; omega
theorem Rd.nil {a : Nat} (h : a ≤ n) : Rd t n a a [] := ⟨rfl, rfl, h⟩
theorem Rd.one {a : Nat} (h : a < n) : Rd t n a (a + 1) [t a] := ⟨rfl, rfl, h⟩
theorem rd_TB {x y a b : Nat} (h : pTB t n x y a = (true, b)) : Rd t n a b [t a] ∧ x ≤ t a ∧ t a ≤ y := by
  unfold pTB at h
  split at h
  · rename_i q
    cases h
    exact ⟨Rd.one q.1, q.2⟩
  · cases h
theorem rd_T {x a b : Nat} (h : pT t n x a = (true, b)) : Rd t n a b [x] := by
  obtain ⟨h1, h2, h3⟩ := rd_TB h
  have e : t a = x := by omega
  rw [e] at h1
  exact h1
theorem rd_Nl : ∀ (k a : Nat), a ≤ n → ∃ w, Rd t n a (pNl t n k a) w ∧ gRest w ∧ w.length ≤ k := by
  intro k
  induction k with
  | zero => intro a h; exact ⟨[], Rd.nil h, fun x hx => (by cases hx), Nat.le_refl _⟩
  | succ k ih =>
    intro a h
    unfold pNl
    rcases h1 : pTB t n 97 122 a with ⟨b, a1⟩
    cases b with
    | true =>
      obtain ⟨r1, r2⟩ := rd_TB h1
      obtain ⟨w, w1, w2, w3⟩ := ih a1 r1.2.2
      rw [if_pos rfl]
      exact ⟨t a :: w, r1.app w1, fun x hx => by
        cases hx with
        | head => exact Or.inl r2
        | tail _ q => exact w2 x q, Nat.succ_le_succ w3⟩
    | false =>
      rw [if_neg (fun q => by cases q)]
      rcases h2 : pTB t n 48 57 a with ⟨b, a2⟩
      cases b with
      | true =>
        obtain ⟨r1, r2⟩ := rd_TB h2
        obtain ⟨w, w1, w2, w3⟩ := ih a2 r1.2.2
        rw [if_pos rfl]
        exact ⟨t a :: w, r1.app w1, fun x hx => by
          cases hx with
          | head => exact Or.inr r2
          | tail _ q => exact w2 x q, Nat.succ_le_succ w3⟩
      | false =>
        rw [if_neg (fun q => by cases q)]
        exact ⟨[], Rd.nil h, fun x hx => (by cases hx), Nat.zero_le _⟩
theorem rd_Name {a b : Nat} (h : pName t n a = (true, b)) : ∃ w, Rd t n a b w ∧ gName w := by
  unfold pName at h
  rcases h1 : pTB t n 97 122 a with ⟨c, a1⟩
  rw [h1] at h
  cases c with
  | false => rw [if_neg (fun q => by cases q)] at h; cases h
  | true =>
    rw [if_pos rfl] at h
    cases h
    obtain ⟨r1, r2⟩ := rd_TB h1
    obtain ⟨w, w1, w2, w3⟩ := rd_Nl (t := t) 7 a1 r1.2.2
    exact ⟨t a :: w, r1.app w1, t a, w, rfl, r2, w2, w3⟩
theorem rd_Anchor {a b : Nat} (h : pAnchor t n a = (true, b)) : ∃ x, Rd t n a b (35 :: txAnc x) ∧ gAnc x := by
  unfold pAnchor at h
  rcases h1 : pT t n 35 a with ⟨c, a1⟩
  rw [h1] at h
  cases c with
  | false => cases h
  | true =>
    dsimp only at h
    have r1 := rd_T h1
    rcases h2 : pName t n a1 with ⟨c, a2⟩
    rw [h2] at h
    cases c with
    | false => cases h
    | true =>
      dsimp only at h
      obtain ⟨w, w1, w2⟩ := rd_Name h2
      rcases h3 : pT t n 45 a2 with ⟨c, a3⟩
      rw [h3] at h
      cases c with
      | false =>
        dsimp only at h
        cases h
        have := pTB_ff h3
        subst this
        refine ⟨(w, 0), ?_, w2, Nat.zero_le _⟩
        have : txAnc (w, 0) = w := List.append_nil w
        rw [this]
        exact r1.app w1
      | true =>
        dsimp only at h
        have r3 := rd_T h3
        rcases h4 : pTB t n 49 57 a3 with ⟨c, a4⟩
        rw [h4] at h
        cases c with
        | false => cases h
        | true =>
          dsimp only at h
          obtain ⟨r4, l4⟩ := rd_TB h4
          rcases h5 : pTB t n 48 57 a4 with ⟨c, a5⟩
          rw [h5] at h
          dsimp only at h
          cases h
          cases c with
          | false =>
            have := pTB_ff h5
            subst this
            refine ⟨(w, t a3 - 48), ?_, w2, by show t a3 - 48 ≤ 99; omega⟩
            have e : txAnc (w, t a3 - 48) = w ++ ([45] ++ [t a3]) := by
              unfold txAnc txNum
              dsimp only
              rw [if_neg (by omega), if_pos (by omega), show 48 + (t a3 - 48) = t a3 by omega]
              rfl
            rw [e]
            exact r1.app (w1.app (r3.app r4))
          | true =>
            obtain ⟨r5, l5⟩ := rd_TB h5
            refine ⟨(w, (t a3 - 48) * 10 + (t a4 - 48)), ?_, w2, by show (t a3 - 48) * 10 + (t a4 - 48) ≤ 99; omega⟩
            have e : txAnc (w, (t a3 - 48) * 10 + (t a4 - 48)) = w ++ ([45] ++ ([t a3] ++ [t a4])) := by
              unfold txAnc txNum
              dsimp only
              rw [if_neg (by omega), if_neg (by omega), show 48 + ((t a3 - 48) * 10 + (t a4 - 48)) / 10 = t a3 by omega, show 48 + ((t a3 - 48) * 10 + (t a4 - 48)) % 10 = t a4 by omega]
              rfl
            rw [e]
            exact r1.app (w1.app (r3.app (r4.app r5)))
theorem rd_Elem {a b : Nat} (h : pElem t n a = (true, b)) : ∃ e, Rd t n a b (txEl e) ∧ gEl e := by
  unfold pElem at h
  rcases h1 : pT t n 91 a with ⟨c, a1⟩
  rw [h1] at h
  cases c with
  | false =>
    dsimp only at h
    have := pTB_ff h1
    subst this
    obtain ⟨w, w1, w2⟩ := rd_Name h
    exact ⟨.inl w, w1, w2⟩
  | true =>
    dsimp only at h
    have r1 := rd_T h1
    rcases h2 : pTB t n 65 76 a1 with ⟨c, a2⟩
    rw [h2] at h
    dsimp only at h
    have hl : ∃ l, Rd t n a1 a2 (txLet l) ∧ (∀ p, l = some p → p < 12) ∧ (l = none ↔ c = false) := by
      cases c with
      | false =>
        have := pTB_ff h2
        subst this
        exact ⟨none, Rd.nil r1.2.2, fun p q => (by cases q), fun _ => rfl, fun _ => rfl⟩
      | true =>
        obtain ⟨r2, l2⟩ := rd_TB h2
        refine ⟨some (t a1 - 65), ?_, fun p q => (by cases q; omega), fun q => (by cases q), fun q => by cases q⟩
        show Rd t n a1 a2 [65 + (t a1 - 65)]
        rw [show 65 + (t a1 - 65) = t a1 by omega]
        exact r2
    obtain ⟨l, l1, l2, l3⟩ := hl
    cases h3 : isN t n 35 a2 with
    | true =>
      rw [h3, if_pos rfl] at h
      rcases h4 : pAnchor t n a2 with ⟨c', a3⟩
      rw [h4] at h
      cases c' with
      | false => cases h
      | true =>
        dsimp only at h
        obtain ⟨x, x1, x2⟩ := rd_Anchor h4
        refine ⟨.inr (l, some x), ?_, l2, fun y q => (by cases q; exact x2), fun _ q => by cases q⟩
        have := r1.app ((l1.app x1).app (rd_T h))
        exact this
    | false =>
      rw [h3, if_neg (by decide)] at h
      cases c with
      | false => rw [if_neg (fun q => by cases q)] at h; cases h
      | true =>
        rw [if_pos rfl] at h
        refine ⟨.inr (l, none), ?_, l2, fun y q => (by cases q), fun q => by have := l3.mp q; cases this⟩
        have := r1.app (l1.app (rd_T h))
        show Rd t n a b (91 :: ((txLet l ++ []) ++ [93]))
        rw [List.append_nil]
        exact this
theorem rd_Els : ∀ (k a b : Nat), pEls t n k a = (true, b) → ∃ es, es ≠ [] ∧ Rd t n a b (txEls es) ∧ ∀ e ∈ es, gEl e := by
  intro k
  induction k with
  | zero => intro a b h; cases h
  | succ k ih =>
    intro a b h
    unfold pEls at h
    rcases h1 : pElem t n a with ⟨c, a1⟩
    rw [h1] at h
    cases c with
    | false => cases h
    | true =>
      dsimp only at h
      obtain ⟨e, e1, e2⟩ := rd_Elem h1
      rcases h2 : pT t n 44 a1 with ⟨c, a2⟩
      rw [h2] at h
      cases c with
      | false =>
        dsimp only at h
        cases h
        have := pTB_ff h2
        subst this
        exact ⟨[e], fun q => (by cases q), e1, fun x hx => by rw [List.mem_singleton.mp hx]; exact e2⟩
      | true =>
        dsimp only at h
        obtain ⟨es, n1, n2, n3⟩ := ih a2 b h
        cases es with
        | nil => exact absurd rfl n1
        | cons f r =>
          refine ⟨e :: f :: r, fun q => (by cases q), e1.app ((rd_T h2).app n2), fun x hx => ?_⟩
          cases hx with
          | head => exact e2
          | tail _ q => exact n3 x q
theorem rd_Eq : ∀ (k a : Nat), a ≤ n → ∃ v, v ≤ k ∧ Rd t n a (pEq t n k a) (List.replicate v 61) ∧ (0 < k → isN t n 61 a = true → 1 ≤ v) := by
  intro k
  induction k with
  | zero => intro a h; exact ⟨0, Nat.le_refl _, Rd.nil h, fun q => absurd q (by decide)⟩
  | succ k ih =>
    intro a h
    unfold pEq
    rcases h1 : pT t n 61 a with ⟨c, a1⟩
    cases c with
    | true =>
      have r1 := rd_T h1
      obtain ⟨v, v1, v2, _⟩ := ih a1 r1.2.2
      exact ⟨v + 1, by omega, r1.app v2, fun _ _ => by omega⟩
    | false =>
      have := pTB_ff h1
      subst this
      obtain ⟨v, v1, v2, _⟩ := ih a1 h
      exact ⟨v, by omega, v2, fun _ q => by rw [isN_T, h1] at q; cases q⟩
theorem rd_Line {a b : Nat} (ha : a ≤ n) (h : pLine t n a = (true, b)) : ∃ l, Rd t n a b (txLine l) ∧ gLine l := by
  unfold pLine at h
  cases h1 : isN t n 61 a with
  | true =>
    rw [h1, if_pos rfl] at h
    unfold pHead at h
    obtain ⟨v, v1, v2, v3⟩ := rd_Eq (t := t) 3 a ha
    obtain ⟨w, w1, w2⟩ := rd_Name h
    exact ⟨.inl (v, w), v2.app w1, v3 (by omega) h1, v1, w2⟩
  | false =>
    rw [h1, if_neg (by decide)] at h
    cases h2 : isN t n 123 a with
    | true =>
      rw [h2, if_pos rfl] at h
      unfold pIncl at h
      rcases h3 : pT t n 123 a with ⟨c, a1⟩
      rw [h3] at h
      cases c with
      | false => cases h
      | true =>
        dsimp only at h
        rcases h4 : pTB t n 65 76 a1 with ⟨c, a2⟩
        rw [h4] at h
        cases c with
        | false => cases h
        | true =>
          dsimp only at h
          obtain ⟨r4, l4⟩ := rd_TB h4
          rcases h5 : pT t n 43 a2 with ⟨c, a3⟩
          rw [h5] at h
          cases c with
          | false =>
            dsimp only at h
            have := pTB_ff h5
            subst this
            refine ⟨.inr (.inl (t a1 - 65, none)), ?_, by omega, fun x q => by cases q⟩
            show Rd t n a b [123, 65 + (t a1 - 65), 125]
            rw [show 65 + (t a1 - 65) = t a1 by omega]
            exact (rd_T h3).app (r4.app (rd_T h))
          | true =>
            dsimp only at h
            rcases h6 : pTB t n 48 50 a3 with ⟨c, a4⟩
            rw [h6] at h
            cases c with
            | false => cases h
            | true =>
              dsimp only at h
              obtain ⟨r6, l6⟩ := rd_TB h6
              refine ⟨.inr (.inl (t a1 - 65, some (t a3 - 48))), ?_, by omega, fun x q => by cases q; omega⟩
              show Rd t n a b [123, 65 + (t a1 - 65), 43, 48 + (t a3 - 48), 125]
              rw [show 65 + (t a1 - 65) = t a1 by omega, show 48 + (t a3 - 48) = t a3 by omega]
              exact (rd_T h3).app (r4.app ((rd_T h5).app (r6.app (rd_T h))))
    | false =>
      rw [h2, if_neg (by decide)] at h
      obtain ⟨es, e1, e2, e3⟩ := rd_Els _ _ _ h
      exact ⟨.inr (.inr es), e2, e1, e3⟩
theorem rd_Pg : ∀ (k a : Nat), a ≤ n → pPg t n k a = none → ∃ ls, ls ≠ [] ∧ Rd t n a n (txPg ls) ∧ gPg ls := by
  intro k
  induction k with
  | zero => intro a _ h; cases h
  | succ k ih =>
    intro a ha h
    unfold pPg at h
    rcases h1 : pLine t n a with ⟨c, a1⟩
    rw [h1] at h
    cases c with
    | false => cases h
    | true =>
      dsimp only at h
      obtain ⟨l, l1, l2⟩ := rd_Line ha h1
      rcases h2 : pT t n 59 a1 with ⟨c, a2⟩
      rw [h2] at h
      cases c with
      | false =>
        dsimp only at h
        have := pTB_ff h2
        subst this
        split at h
        · rename_i e
          subst e
          exact ⟨[l], fun q => (by cases q), l1, fun x hx => by rw [List.mem_singleton.mp hx]; exact l2⟩
        · cases h
      | true =>
        dsimp only at h
        have r2 := rd_T h2
        obtain ⟨ls, n1, n2, n3⟩ := ih a2 r2.2.2 h
        cases ls with
        | nil => exact absurd rfl n1
        | cons f r =>
          refine ⟨l :: f :: r, fun q => (by cases q), l1.app (r2.app n2), fun x hx => ?_⟩
          cases hx with
          | head => exact l2
          | tail _ q => exact n3 x q
/-- a text without a fault is a page -/
theorem page_of (h : pageF t n = none) : ∃ ls, ls ≠ [] ∧ gPg ls ∧ txPg ls = sg t 0 n := by
  obtain ⟨ls, h1, ⟨h2, h3, _⟩, h4⟩ := rd_Pg (t := t) (n + 1) 0 (Nat.zero_le n) h
  refine ⟨ls, h1, h4, ?_⟩
  have e : (txPg ls).length = n := by omega
  rw [e] at h2
  exact h2.symm
theorem rd_Place {a b : Nat} (h : pPlace t n a = (true, b)) : ∃ (p : Nat) (x : Option Anc), Rd t n a b (txLink (some p) x) ∧ p < 12 ∧ t a = 65 + p ∧ (∀ y, x = some y → gAnc y) := by
  unfold pPlace at h
  rcases h1 : pTB t n 65 76 a with ⟨c, a1⟩
  rw [h1] at h
  cases c with
  | false => cases h
  | true =>
    dsimp only at h
    obtain ⟨r1, l1⟩ := rd_TB h1
    have r1' : Rd t n a a1 (txLet (some (t a - 65))) := by
      show Rd t n a a1 [65 + (t a - 65)]
      rw [show 65 + (t a - 65) = t a by omega]
      exact r1
    cases h2 : isN t n 35 a1 with
    | true =>
      rw [h2, if_pos rfl] at h
      obtain ⟨x, x1, x2⟩ := rd_Anchor h
      exact ⟨t a - 65, some x, r1'.app x1, by omega, by omega, fun y q => by cases q; exact x2⟩
    | false =>
      rw [h2, if_neg (by decide)] at h
      cases h
      exact ⟨t a - 65, none, r1'.app (Rd.nil r1.2.2), by omega, by omega, fun y q => by cases q⟩
/-- a text without a fault is a redirect -/
theorem redirect_of (h : redF t n = none) : ∃ (p q : Nat) (x y : Option Anc), p < 12 ∧ q < 12 ∧ (∀ z, x = some z → gAnc z) ∧ (∀ z, y = some z → gAnc z) ∧ sg t 0 n = txLink (some p) x ++ 62 :: txLink (some q) y := by
  unfold redF at h
  rcases h1 : pPlace t n 0 with ⟨c, a1⟩
  rw [h1] at h
  cases c with
  | false => cases h
  | true =>
    dsimp only at h
    obtain ⟨p, x, r1, l1, _, g1⟩ := rd_Place h1
    rcases h2 : pT t n 62 a1 with ⟨c, a2⟩
    rw [h2] at h
    cases c with
    | false => cases h
    | true =>
      dsimp only at h
      rcases h3 : pPlace t n a2 with ⟨c, a3⟩
      rw [h3] at h
      cases c with
      | false => cases h
      | true =>
        dsimp only at h
        obtain ⟨q, y, r3, l3, _, g3⟩ := rd_Place h3
        split at h
        · rename_i e
          subst e
          have w := r1.app ((rd_T h2).app r3)
          refine ⟨p, q, x, y, l1, l3, g1, g3, ?_⟩
          obtain ⟨w1, w2, _⟩ := w
          rw [Nat.zero_add] at w2
          rw [w2]
          exact w1
        · cases h
end
