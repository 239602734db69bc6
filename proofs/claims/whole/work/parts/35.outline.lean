/-! what a page's lines give: kinds, includes, sections, links; the class's Outline -/
theorem hI_sL (h : Hp) (f p k : Nat) (x : Int64) : hI (setL h f p k x) = hI h := rfl
theorem hL_sI (h : Hp) (f p k : Nat) (x : Int32) : hL (setI h f p k x) = hL h := rfl
def All {α : Type} (l : List α) (P : Nat → α → Prop) : Prop := ∀ j x, l[j]? = some x → P j x
theorem All_snoc {α : Type} {l : List α} {P P' : Nat → α → Prop} {y : α} (h : All l P) (m : ∀ j x, j < l.length → P j x → P' j x) (e : P' l.length y) : All (l ++ [y]) P' := by
  intro j x hx
  by_cases q : j < l.length
  · rw [List.getElem?_append_left q] at hx
    exact m j x q (h j x hx)
  · rw [List.getElem?_append_right (by omega)] at hx
    obtain ⟨q2, hx⟩ := List.getElem?_eq_some_iff.mp hx
    have q2 : j - l.length < 1 := q2
    have e2 : j = l.length := by omega
    subst e2
    have e3 : l.length - l.length = 0 := Nat.sub_self _
    have hx : [y][l.length - l.length] = x := hx
    simp only [e3, List.getElem_cons_zero] at hx
    rw [← hx]
    exact e
theorem All_nil {α : Type} {P : Nat → α → Prop} : All ([] : List α) P := fun j x h => by cases h
theorem All_lt {α : Type} {l : List α} {j : Nat} {x : α} (h : l[j]? = some x) : j < l.length := (List.getElem?_eq_some_iff.mp h).1
theorem All_mo {α : Type} {l : List α} {P P' : Nat → α → Prop} (h : All l P) (m : ∀ j x, j < l.length → P j x → P' j x) : All l P' := fun j x hx => m j x (All_lt hx) (h j x hx)
def dgF (s : Nat) (w : List Nat) : Nat := w.foldl (fun s c => (31 * s + c) % 1000003) s
def dg (s : Nat) (w : List Nat) : Nat := dgF ((31 * s + 59) % 1000003) w
theorem dgF_lt : ∀ (w : List Nat) (s : Nat), s < 1000003 → dgF s w < 1000003 := by
  intro w
  induction w with
  | nil => intro s h; exact h
  | cons c w ih => intro s _; exact ih _ (Nat.mod_lt _ (by decide))
theorem dg_lt (s : Nat) (w : List Nat) : dg s w < 1000003 := dgF_lt _ _ (Nat.mod_lt _ (by decide))
def isInc (l : Line) : Bool := match l with
  | .inr (.inl _) => true
  | _ => false
def stI (n : Nat) (l : Line) : Nat := match l with
  | .inr (.inl _) => n + 1
  | _ => n
def stM (m : Int32) (l : Line) : Int32 := match l with
  | .inr (.inl (p, _)) => m ||| bit p
  | _ => m
def grow (sc : List (Nat × Nat)) (w : List Nat) : List (Nat × Nat) := match sc.getLast? with
  | none => sc
  | some s => sc.dropLast ++ [(s.1 + 1, dg s.2 w)]
def stS (sc : List (Nat × Nat)) (l : Line) : List (Nat × Nat) := match l with
  | .inl _ => sc ++ [(0, 7)]
  | l => grow sc (txLine l)
def nInc (ls : List Line) : Nat := ls.foldl stI 0
def mInc (ls : List Line) : Int32 := ls.foldl stM (nI 0)
def secs (ls : List Line) : List (Nat × Nat) := ls.foldl stS []
theorem grow_nil (w : List Nat) : grow [] w = [] := rfl
theorem grow_sn (a : List (Nat × Nat)) (s : Nat × Nat) (w : List Nat) : grow (a ++ [s]) w = a ++ [(s.1 + 1, dg s.2 w)] := by
  have h1 : (a ++ [s]).getLast? = some s := by simp
  have h2 : (a ++ [s]).dropLast = a := by simp
  unfold grow
  rw [h1]
  show (a ++ [s]).dropLast ++ _ = _
  rw [h2]
/-- bounds: lines, sections, links of a text of n signs -/
theorem txName_len {w : List Nat} (h : gName w) : 1 ≤ w.length := (gName_r h).2.1
theorem txEl_len {e : Elem} (h : gEl e) : 1 ≤ (txEl e).length := by
  rcases e with w | ⟨l, a⟩
  · exact txName_len h
  · show 1 ≤ (91 :: _).length
    rw [List.length_cons]; omega
theorem txEls_len : ∀ {es : List Elem}, es ≠ [] → (∀ e ∈ es, gEl e) → 1 ≤ (txEls es).length := by
  intro es hn hg
  cases es with
  | nil => exact absurd rfl hn
  | cons e r =>
    have := txEl_len (hg e List.mem_cons_self)
    cases r with
    | nil => exact this
    | cons f r =>
      show 1 ≤ (txEl e ++ 44 :: txEls (f :: r)).length
      rw [List.length_append]; omega
theorem txLine_len {l : Line} (h : gLine l) : 1 ≤ (txLine l).length := by
  rcases l with ⟨v, w⟩ | ⟨p, s⟩ | es
  · show 1 ≤ (List.replicate v 61 ++ w).length
    rw [List.length_append]
    have := txName_len h.2.2
    omega
  · cases s <;> exact Nat.le_of_ble_eq_true rfl
  · exact txEls_len h.1 h.2
theorem txPg_cons (l : Line) {r : List Line} (h : r ≠ []) : txPg (l :: r) = txLine l ++ 59 :: txPg r := by
  cases r with
  | nil => exact absurd rfl h
  | cons a b => rfl
theorem txPg_len : ∀ {ls : List Line}, gPg ls → 2 * ls.length ≤ (txPg ls).length + 1 := by
  intro ls
  induction ls with
  | nil => intro _; exact Nat.zero_le _
  | cons l r ih =>
    intro h
    have h1 := txLine_len (h l List.mem_cons_self)
    have h2 := ih fun x hx => h x (List.mem_cons_of_mem _ hx)
    cases r with
    | nil => show 2 * 1 ≤ (txLine l).length + 1; omega
    | cons a b =>
      have e1 : (txPg (l :: a :: b)).length = (txLine l).length + ((txPg (a :: b)).length + 1) := by
        rw [txPg_cons l (fun q => by cases q), List.length_append, List.length_cons]
      have e2 : (l :: a :: b).length = (a :: b).length + 1 := rfl
      omega
def KindC (σ : Hp) (p j : Nat) (l : Line) : Prop := match l with
  | .inl (v, w) => hI σ 22 p j = nI v ∧ hL σ 23 p j = lN (nmC w)
  | .inr (.inl (q, s)) => hI σ 22 p j = (-1) ∧ hI σ 24 p j = nI q ∧ hI σ 25 p j = nI (s.getD 0)
  | .inr (.inr _) => hI σ 22 p j = nI 0
def SecC (σ : Hp) (p j : Nat) (s : Nat × Nat) : Prop := hI σ 30 p j = nI s.1 ∧ hI σ 31 p j = nI s.2 ∧ s.2 < 1000003 ∧ s.1 < 1000
theorem remD {k : Nat} (h : k < 2147483648) : nI k - nI k / nI 1000003 * nI 1000003 = nI (k % 1000003) := pk_rem h (by decide) (by decide)
theorem s_grow (d : Nat) (h : Hp) {p s : Nat} {c : Int32} (hp : p < 12) (hs : s < 53) (fr to : Int32) (W : Nat) (hc : hI h 30 p s = c) : ∀ (w : List Nat) (a v x : Nat), small w → Tx (hI h 9 0) a w → a + w.length = x → x ≤ 1920 → v < 1000003 → dgF v w = W → ∀ Q : Option AV → Hp → Prop, Q none (setI (setI h 31 p s (nI W)) 30 p s (c + nI 1)) → Sat true d 27 h.1 Q 29 [some (vr 21 p), some (vr 9 0), some (vi fr), some (vi (nI x)), some (vi (nI s)), some (vi (nI v)), some (vi (nI a))] [] h := by
  intro w
  induction w with
  | nil =>
    intro a v x hw ht hx hN hv hW Q hq
    have hx : a = x := hx
    have hW : v = W := hW
    subst hx
    subst hW
    refine wp_ok (cut := [29]) ma_27 rfl 17 _ _ _ _ ?_
    show (((nI a) ≤ (nI a) → (p < 12 ∧ (p < 12 ∧ (vp_in (nI s) 53 ∧ (p < 12 ∧ (p < 12 ∧ (vp_in (nI s) 53 ∧ (p < 12 ∧ (vp_in (nI s) 53 ∧ (Q none (setI (setI h 31 p ((nI s).toNatClampNeg) (nI v)) 30 p ((nI s).toNatClampNeg) ((hI h 30 p ((nI s).toNatClampNeg)) + (nI 1))) ∧ h.1 = h.1)))))))))) ∧ (¬ (nI a) ≤ (nI a) → (vp_in (nI a) 1920 ∧ (¬ (nI 1000003) = 0 ∧ Sat true d 27 h.1 Q 29 [some (vr 21 p), some (vr 9 0), some (vi fr), some (vi (nI a)), some (vi (nI s)), some (vi ((((nI 31) * (nI v)) + (hI h 9 0 ((nI a).toNatClampNeg))) - (((nI 31) * (nI v)) + (hI h 9 0 ((nI a).toNatClampNeg))) / (nI 1000003) * (nI 1000003))), some (vi ((nI a) + nI 1))] [] h))))
    refine ⟨fun _ => ?_, fun g => absurd (Int32.le_refl _) g⟩
    rw [ix (by omega), hc]
    exact ⟨hp, hp, inb (by omega) (by omega), hp, hp, inb (by omega) (by omega), hp, inb (by omega) (by omega), hq, rfl⟩
  | cons y w ih =>
    intro a v x hw ht hx hN hv hW Q hq
    obtain ⟨t1, t2⟩ := ht
    rw [List.length_cons] at hx
    have hy : y < 128 := hw y List.mem_cons_self
    have kq := ih (a + 1) ((31 * v + y) % 1000003) x (fun z hz => hw z (List.mem_cons_of_mem _ hz)) t2 (by omega) hN (Nat.mod_lt _ (by decide)) hW Q hq
    refine wp_ok (cut := [29]) ma_27 rfl 17 _ _ _ _ ?_
    show (((nI x) ≤ (nI a) → (p < 12 ∧ (p < 12 ∧ (vp_in (nI s) 53 ∧ (p < 12 ∧ (p < 12 ∧ (vp_in (nI s) 53 ∧ (p < 12 ∧ (vp_in (nI s) 53 ∧ (Q none (setI (setI h 31 p ((nI s).toNatClampNeg) (nI v)) 30 p ((nI s).toNatClampNeg) ((hI h 30 p ((nI s).toNatClampNeg)) + (nI 1))) ∧ h.1 = h.1)))))))))) ∧ (¬ (nI x) ≤ (nI a) → (vp_in (nI a) 1920 ∧ (¬ (nI 1000003) = 0 ∧ Sat true d 27 h.1 Q 29 [some (vr 21 p), some (vr 9 0), some (vi fr), some (vi (nI x)), some (vi (nI s)), some (vi ((((nI 31) * (nI v)) + (hI h 9 0 ((nI a).toNatClampNeg))) - (((nI 31) * (nI v)) + (hI h 9 0 ((nI a).toNatClampNeg))) / (nI 1000003) * (nI 1000003))), some (vi ((nI a) + nI 1))] [] h))))
    refine br_le (by omega) (by omega) (fun g => by omega) (fun _ => ?_)
    rw [ix (by omega), t1, mulN, addN, remD (by omega), addN]
    exact ⟨inb (by omega) (by omega), by decide, kq⟩
theorem e_growSection (d : Nat) (h : Hp) {p s g a x : Nat} {w : List Nat} {c : Int32} (hp : p < 12) (hs : s < 53) (h13 : hI h 21 p 13 = nI (s + 1)) (hg : hI h 31 p s = nI g) (hg2 : g < 1000003) (hc : hI h 30 p s = c) (hw : small w) (ht : Tx (hI h 9 0) a w) (hx : x = a + w.length) (hN : x ≤ 1920) : EV d 27 [vr 21 p, vr 9 0, vi (nI a), vi (nI x)] h (setI (setI h 31 p s (nI (dg g w))) 30 p s (c + nI 1)) := by
  refine EV_of mt_27 (Nat.le_of_ble_eq_true rfl) fun Q hq => ?_
  refine wp_ok (cut := [29]) ma_27 rfl 18 _ _ _ _ ?_
  show (p < 12 ∧ (p < 12 ∧ (p < 12 ∧ (vp_in ((hI h 21 p 13) - (nI 1)) 53 ∧ (¬ (nI 1000003) = 0 ∧ Sat true d 27 h.1 Q 29 [some (vr 21 p), some (vr 9 0), some (vi (nI a)), some (vi (nI x)), some (vi ((hI h 21 p 13) - (nI 1))), some (vi ((((nI 31) * (hI h 31 p (((hI h 21 p 13) - (nI 1)).toNatClampNeg))) + (nI 59)) - (((nI 31) * (hI h 31 p (((hI h 21 p 13) - (nI 1)).toNatClampNeg))) + (nI 59)) / (nI 1000003) * (nI 1000003))), some (vi (nI a))] [] h)))))
  rw [h13, subN (by omega), show s + 1 - 1 = s by omega, ix (by omega), hg, mulN, addN, remD (by omega)]
  exact ⟨hp, hp, hp, inb (by omega) (by omega), by decide, s_grow d h hp hs (nI a) (nI x) (dg g w) hc w a _ x hw ht hx.symm hN (Nat.mod_lt _ (by decide)) rfl Q hq⟩
set_option maxRecDepth 4000 in
theorem s_eqs (d : Nat) (h : Hp) {p j s o x : Nat} {w : List Nat} (hp : p < 12) (hj : j < 80) (hs : s < 53) (h1 : hI h 21 p 1 = nI j) (h13 : hI h 21 p 13 = nI s) (hw : gName w) {V : Nat} : ∀ (v a : Nat), a + v = o + V → V ≤ 3 → o ≤ a → Tx (hI h 9 0) a (List.replicate v 61 ++ w) → x = a + v + w.length → x ≤ 1920 → ∀ Q : Option AV → Hp → Prop, Q none (setI (setI (setI (setL (setI h 22 p j (nI V)) 23 p j (lN (nmC w))) 30 p s (nI 0)) 31 p s (nI 7)) 21 p 13 (nI (s + 1))) → Sat true (d + 1) 24 h.1 Q 3 [some (vr 21 p), some (vr 9 0), some (vi (nI o)), some (vi (nI x)), some (vi (nI a))] [] h := by
  intro v
  induction v with
  | zero =>
    intro a ha hV hoa ht hx hN Q hq
    have ht : Tx (hI h 9 0) a w := ht
    obtain ⟨n1, n2, n3⟩ := gName_r hw
    obtain ⟨c, r, rfl, hc, _⟩ := hw
    have t1 := ht.1
    obtain ⟨c1, c2⟩ := hc
    rw [List.length_cons] at hx
    have hw' : gName (c :: r) := ⟨c, r, rfl, ⟨c1, c2⟩, (gRest_c n1).2, by rw [List.length_cons] at n3; omega⟩
    refine wp_ok (cut := [3]) ma_24 rfl 48 _ _ _ _ ?_
    show (((nI x) ≤ (nI a) → (p < 12 ∧ (p < 12 ∧ (p < 12 ∧ (vp_in (hI h 21 p 1) 80 ∧ (p < 12 ∧ (p < 12 ∧ CalL true d 0 [vr 9 0, vi (nI a), vi (nI x)] (setI h 22 p ((hI h 21 p 1).toNatClampNeg) ((nI a) - (nI o))) h.1 (fun x2 s1 => (p < 12 ∧ (vp_in (hI h 21 p 1) 80 ∧ (p < 12 ∧ (((nI 53) ≤ (hI s1 21 p 13) → (Q none (setL s1 23 p ((hI h 21 p 1).toNatClampNeg) x2) ∧ s1.1 = h.1)) ∧ (¬ (nI 53) ≤ (hI s1 21 p 13) → (p < 12 ∧ (p < 12 ∧ (p < 12 ∧ (vp_in (hI s1 21 p 13) 53 ∧ (p < 12 ∧ (p < 12 ∧ (p < 12 ∧ (vp_in (hI s1 21 p 13) 53 ∧ (p < 12 ∧ (p < 12 ∧ (Q none (setI (setI (setI (setL s1 23 p ((hI h 21 p 1).toNatClampNeg) x2) 30 p ((hI s1 21 p 13).toNatClampNeg) (nI 0)) 31 p ((hI s1 21 p 13).toNatClampNeg) (nI 7)) 21 p 13 ((hI s1 21 p 13) + (nI 1))) ∧ s1.1 = h.1)))))))))))))))))))))))) ∧ (¬ (nI x) ≤ (nI a) → (vp_in (nI a) 1920 ∧ ((¬ (hI h 9 0 ((nI a).toNatClampNeg)) = (nI 61) → (p < 12 ∧ (p < 12 ∧ (p < 12 ∧ (vp_in (hI h 21 p 1) 80 ∧ (p < 12 ∧ (p < 12 ∧ CalL true d 0 [vr 9 0, vi (nI a), vi (nI x)] (setI h 22 p ((hI h 21 p 1).toNatClampNeg) ((nI a) - (nI o))) h.1 (fun x4 s3 => (p < 12 ∧ (vp_in (hI h 21 p 1) 80 ∧ (p < 12 ∧ (((nI 53) ≤ (hI s3 21 p 13) → (Q none (setL s3 23 p ((hI h 21 p 1).toNatClampNeg) x4) ∧ s3.1 = h.1)) ∧ (¬ (nI 53) ≤ (hI s3 21 p 13) → (p < 12 ∧ (p < 12 ∧ (p < 12 ∧ (vp_in (hI s3 21 p 13) 53 ∧ (p < 12 ∧ (p < 12 ∧ (p < 12 ∧ (vp_in (hI s3 21 p 13) 53 ∧ (p < 12 ∧ (p < 12 ∧ (Q none (setI (setI (setI (setL s3 23 p ((hI h 21 p 1).toNatClampNeg) x4) 30 p ((hI s3 21 p 13).toNatClampNeg) (nI 0)) 31 p ((hI s3 21 p 13).toNatClampNeg) (nI 7)) 21 p 13 ((hI s3 21 p 13) + (nI 1))) ∧ s3.1 = h.1)))))))))))))))))))))))) ∧ ((hI h 9 0 ((nI a).toNatClampNeg)) = (nI 61) → Sat true (d + 1) 24 h.1 Q 3 [some (vr 21 p), some (vr 9 0), some (vi (nI o)), some (vi (nI x)), some (vi ((nI a) + nI 1))] [] h)))))
    refine br_le (by omega) (by omega) (fun g => by omega) (fun _ => ?_)
    rw [ix (by omega), t1]
    refine ⟨inb (by omega) (by omega), br_ne (by omega) (by omega) (fun _ => ?_) (fun g => by omega)⟩
    rw [h1, ix (by omega), subN (by omega), show a - o = V by omega]
    refine ⟨hp, hp, hp, inb (by omega) (by omega), hp, hp, ?_⟩
    have e21 : hI (setI h 22 p j (nI V)) 21 p 1 = nI j := h1
    have t9 : Tx (hI (setI h 22 p j (nI V)) 9 0) a (c :: r) := ht
    refine cal_l (e_nameIn9 d hw' t9 (by rw [List.length_cons]; omega) hN) rfl ?_
    have g1 : hI (setI h 22 p j (nI V)) 21 p 13 = nI s := h13
    have g2 : hI (setL (setI h 22 p j (nI V)) 23 p j (lN (nmC (c :: r)))) 21 p 13 = nI s := h13
    have g3 : hI (setI (setI (setL (setI h 22 p j (nI V)) 23 p j (lN (nmC (c :: r)))) 30 p s (nI 0)) 31 p s (nI 7)) 21 p 13 = nI s := h13
    simp only [hp, true_and]
    rw [g1]
    refine ⟨inb (by omega) (by omega), br_le (by omega) (by omega) (fun g => by omega) (fun _ => ?_)⟩
    rw [ix (by omega), addN]
    exact ⟨inb (by omega) (by omega), inb (by omega) (by omega), hq, rfl⟩
  | succ v ih =>
    intro a ha hV hoa ht hx hN Q hq
    obtain ⟨t1, t2⟩ := (show hI h 9 0 a = nI 61 ∧ Tx (hI h 9 0) (a + 1) (List.replicate v 61 ++ w) from ht)
    have kq := ih (a + 1) (by omega) hV (by omega) t2 (by omega) hN Q hq
    refine wp_ok (cut := [3]) ma_24 rfl 48 _ _ _ _ ?_
    show (((nI x) ≤ (nI a) → (p < 12 ∧ (p < 12 ∧ (p < 12 ∧ (vp_in (hI h 21 p 1) 80 ∧ (p < 12 ∧ (p < 12 ∧ CalL true d 0 [vr 9 0, vi (nI a), vi (nI x)] (setI h 22 p ((hI h 21 p 1).toNatClampNeg) ((nI a) - (nI o))) h.1 (fun x2 s1 => (p < 12 ∧ (vp_in (hI h 21 p 1) 80 ∧ (p < 12 ∧ (((nI 53) ≤ (hI s1 21 p 13) → (Q none (setL s1 23 p ((hI h 21 p 1).toNatClampNeg) x2) ∧ s1.1 = h.1)) ∧ (¬ (nI 53) ≤ (hI s1 21 p 13) → (p < 12 ∧ (p < 12 ∧ (p < 12 ∧ (vp_in (hI s1 21 p 13) 53 ∧ (p < 12 ∧ (p < 12 ∧ (p < 12 ∧ (vp_in (hI s1 21 p 13) 53 ∧ (p < 12 ∧ (p < 12 ∧ (Q none (setI (setI (setI (setL s1 23 p ((hI h 21 p 1).toNatClampNeg) x2) 30 p ((hI s1 21 p 13).toNatClampNeg) (nI 0)) 31 p ((hI s1 21 p 13).toNatClampNeg) (nI 7)) 21 p 13 ((hI s1 21 p 13) + (nI 1))) ∧ s1.1 = h.1)))))))))))))))))))))))) ∧ (¬ (nI x) ≤ (nI a) → (vp_in (nI a) 1920 ∧ ((¬ (hI h 9 0 ((nI a).toNatClampNeg)) = (nI 61) → (p < 12 ∧ (p < 12 ∧ (p < 12 ∧ (vp_in (hI h 21 p 1) 80 ∧ (p < 12 ∧ (p < 12 ∧ CalL true d 0 [vr 9 0, vi (nI a), vi (nI x)] (setI h 22 p ((hI h 21 p 1).toNatClampNeg) ((nI a) - (nI o))) h.1 (fun x4 s3 => (p < 12 ∧ (vp_in (hI h 21 p 1) 80 ∧ (p < 12 ∧ (((nI 53) ≤ (hI s3 21 p 13) → (Q none (setL s3 23 p ((hI h 21 p 1).toNatClampNeg) x4) ∧ s3.1 = h.1)) ∧ (¬ (nI 53) ≤ (hI s3 21 p 13) → (p < 12 ∧ (p < 12 ∧ (p < 12 ∧ (vp_in (hI s3 21 p 13) 53 ∧ (p < 12 ∧ (p < 12 ∧ (p < 12 ∧ (vp_in (hI s3 21 p 13) 53 ∧ (p < 12 ∧ (p < 12 ∧ (Q none (setI (setI (setI (setL s3 23 p ((hI h 21 p 1).toNatClampNeg) x4) 30 p ((hI s3 21 p 13).toNatClampNeg) (nI 0)) 31 p ((hI s3 21 p 13).toNatClampNeg) (nI 7)) 21 p 13 ((hI s3 21 p 13) + (nI 1))) ∧ s3.1 = h.1)))))))))))))))))))))))) ∧ ((hI h 9 0 ((nI a).toNatClampNeg)) = (nI 61) → Sat true (d + 1) 24 h.1 Q 3 [some (vr 21 p), some (vr 9 0), some (vi (nI o)), some (vi (nI x)), some (vi ((nI a) + nI 1))] [] h)))))
    refine br_le (by omega) (by omega) (fun g => by omega) (fun _ => ?_)
    rw [ix (by omega), t1, addN]
    exact ⟨inb (by omega) (by omega), fun g => absurd rfl g, fun _ => kq⟩
theorem e_addHeading (d : Nat) (h : Hp) {p j s o x v : Nat} {w : List Nat} (hp : p < 12) (hj : j < 80) (hs : s < 53) (h1 : hI h 21 p 1 = nI j) (h13 : hI h 21 p 13 = nI s) (hw : gName w) (hv : v ≤ 3) (ht : Tx (hI h 9 0) o (List.replicate v 61 ++ w)) (hx : x = o + v + w.length) (hN : x ≤ 1920) : EV (d + 1) 24 [vr 21 p, vr 9 0, vi (nI o), vi (nI x)] h (setI (setI (setI (setL (setI h 22 p j (nI v)) 23 p j (lN (nmC w))) 30 p s (nI 0)) 31 p s (nI 7)) 21 p 13 (nI (s + 1))) := by
  refine EV_of mt_24 (Nat.le_of_ble_eq_true rfl) fun Q hq => ?_
  refine wp_ok (cut := [3]) ma_24 rfl 2 _ _ _ _ ?_
  show Sat true (d + 1) 24 h.1 Q 3 [some (vr 21 p), some (vr 9 0), some (vi (nI o)), some (vi (nI x)), some (vi (nI o))] [] h
  exact s_eqs d h hp hj hs h1 h13 hw v o rfl hv (Nat.le_refl _) ht hx hN Q hq
set_option maxRecDepth 4000 in
theorem e_addInclude (d : Nat) (h : Hp) {p j k o x q : Nat} {s : Option Nat} (hp : p < 12) (hj : j < 80) (h1 : hI h 21 p 1 = nI j) (h6 : hI h 21 p 6 = nI k) (hq12 : q < 12) (hs : ∀ y, s = some y → y ≤ 2) (ht : Tx (hI h 9 0) o (txInc q s)) (hx : x = o + (txInc q s).length) (hN : x ≤ 1920) : EV d 25 [vr 21 p, vr 9 0, vi (nI o), vi (nI x)] h (setI (setI (setI (setI (setI h 22 p j (-1)) 24 p j (nI q)) 25 p j (nI (s.getD 0))) 21 p 6 (nI (k + 1))) 21 p 7 (hI h 21 p 7 ||| bit q)) := by
  refine EV_of mt_25 (Nat.le_of_ble_eq_true rfl) fun Q hq => ?_
  have t1 : hI h 9 0 (o + 1) = nI (65 + q) := by
    cases s with
    | none => exact ht.2.1
    | some y => exact ht.2.1
  refine wp_ok (cut := []) ma_25 rfl 66 _ _ _ _ ?_
  show ((((nI x) - (nI o)) ≤ (nI 4) → (p < 12 ∧ (p < 12 ∧ (p < 12 ∧ (vp_in (hI h 21 p 1) 80 ∧ (p < 12 ∧ (p < 12 ∧ ((((nI x) - (nI o)) ≤ (nI 1) → (p < 12 ∧ (p < 12 ∧ (vp_in (hI h 21 p 1) 80 ∧ (p < 12 ∧ (p < 12 ∧ (((nI 0) = 0 → (p < 12 ∧ (vp_in (hI h 21 p 1) 80 ∧ (p < 12 ∧ (p < 12 ∧ (p < 12 ∧ (p < 12 ∧ (p < 12 ∧ (p < 12 ∧ (vp_in (hI (setI (setI (setI (setI h 22 p ((hI h 21 p 1).toNatClampNeg) (-1)) 24 p ((hI h 21 p 1).toNatClampNeg) (hI h 21 p 0)) 25 p ((hI h 21 p 1).toNatClampNeg) (nI 0)) 21 p 6 ((hI h 21 p 6) + (nI 1))) 21 p 1) 80 ∧ (p < 12 ∧ (Q none (setI (setI (setI (setI (setI h 22 p ((hI h 21 p 1).toNatClampNeg) (-1)) 24 p ((hI h 21 p 1).toNatClampNeg) (hI h 21 p 0)) 25 p ((hI h 21 p 1).toNatClampNeg) (nI 0)) 21 p 6 ((hI h 21 p 6) + (nI 1))) 21 p 7 ((hI (setI (setI (setI (setI h 22 p ((hI h 21 p 1).toNatClampNeg) (-1)) 24 p ((hI h 21 p 1).toNatClampNeg) (hI h 21 p 0)) 25 p ((hI h 21 p 1).toNatClampNeg) (nI 0)) 21 p 6 ((hI h 21 p 6) + (nI 1))) 21 p 7) ||| ((nI 1) <<< ((hI (setI (setI h 22 p ((hI h 21 p 1).toNatClampNeg) (-1)) 24 p ((hI h 21 p 1).toNatClampNeg) (hI h 21 p 0)) 24 p ((hI (setI (setI (setI (setI h 22 p ((hI h 21 p 1).toNatClampNeg) (-1)) 24 p ((hI h 21 p 1).toNatClampNeg) (hI h 21 p 0)) 25 p ((hI h 21 p 1).toNatClampNeg) (nI 0)) 21 p 6 ((hI h 21 p 6) + (nI 1))) 21 p 1).toNatClampNeg)) &&& 31)))) ∧ h.1 = h.1)))))))))))) ∧ (¬ (nI 0) = 0 → (vp_in ((nI o) + (nI 3)) 1920 ∧ (p < 12 ∧ (vp_in (hI h 21 p 1) 80 ∧ (p < 12 ∧ (p < 12 ∧ (p < 12 ∧ (p < 12 ∧ (p < 12 ∧ (p < 12 ∧ (vp_in (hI (setI (setI (setI (setI h 22 p ((hI h 21 p 1).toNatClampNeg) (-1)) 24 p ((hI h 21 p 1).toNatClampNeg) (hI h 21 p 0)) 25 p ((hI h 21 p 1).toNatClampNeg) ((hI h 9 0 (((nI o) + (nI 3)).toNatClampNeg)) - (nI 48))) 21 p 6 ((hI h 21 p 6) + (nI 1))) 21 p 1) 80 ∧ (p < 12 ∧ (Q none (setI (setI (setI (setI (setI h 22 p ((hI h 21 p 1).toNatClampNeg) (-1)) 24 p ((hI h 21 p 1).toNatClampNeg) (hI h 21 p 0)) 25 p ((hI h 21 p 1).toNatClampNeg) ((hI h 9 0 (((nI o) + (nI 3)).toNatClampNeg)) - (nI 48))) 21 p 6 ((hI h 21 p 6) + (nI 1))) 21 p 7 ((hI (setI (setI (setI (setI h 22 p ((hI h 21 p 1).toNatClampNeg) (-1)) 24 p ((hI h 21 p 1).toNatClampNeg) (hI h 21 p 0)) 25 p ((hI h 21 p 1).toNatClampNeg) ((hI h 9 0 (((nI o) + (nI 3)).toNatClampNeg)) - (nI 48))) 21 p 6 ((hI h 21 p 6) + (nI 1))) 21 p 7) ||| ((nI 1) <<< ((hI (setI (setI h 22 p ((hI h 21 p 1).toNatClampNeg) (-1)) 24 p ((hI h 21 p 1).toNatClampNeg) (hI h 21 p 0)) 24 p ((hI (setI (setI (setI (setI h 22 p ((hI h 21 p 1).toNatClampNeg) (-1)) 24 p ((hI h 21 p 1).toNatClampNeg) (hI h 21 p 0)) 25 p ((hI h 21 p 1).toNatClampNeg) ((hI h 9 0 (((nI o) + (nI 3)).toNatClampNeg)) - (nI 48))) 21 p 6 ((hI h 21 p 6) + (nI 1))) 21 p 1).toNatClampNeg)) &&& 31)))) ∧ h.1 = h.1)))))))))))))))))))) ∧ (¬ ((nI x) - (nI o)) ≤ (nI 1) → (vp_in ((nI o) + (nI 1)) 1920 ∧ (p < 12 ∧ (vp_in (hI h 21 p 1) 80 ∧ (p < 12 ∧ (p < 12 ∧ (((nI 0) = 0 → (p < 12 ∧ (vp_in (hI h 21 p 1) 80 ∧ (p < 12 ∧ (p < 12 ∧ (p < 12 ∧ (p < 12 ∧ (p < 12 ∧ (p < 12 ∧ (vp_in (hI (setI (setI (setI (setI h 22 p ((hI h 21 p 1).toNatClampNeg) (-1)) 24 p ((hI h 21 p 1).toNatClampNeg) ((hI h 9 0 (((nI o) + (nI 1)).toNatClampNeg)) - (nI 65))) 25 p ((hI h 21 p 1).toNatClampNeg) (nI 0)) 21 p 6 ((hI h 21 p 6) + (nI 1))) 21 p 1) 80 ∧ (p < 12 ∧ (Q none (setI (setI (setI (setI (setI h 22 p ((hI h 21 p 1).toNatClampNeg) (-1)) 24 p ((hI h 21 p 1).toNatClampNeg) ((hI h 9 0 (((nI o) + (nI 1)).toNatClampNeg)) - (nI 65))) 25 p ((hI h 21 p 1).toNatClampNeg) (nI 0)) 21 p 6 ((hI h 21 p 6) + (nI 1))) 21 p 7 ((hI (setI (setI (setI (setI h 22 p ((hI h 21 p 1).toNatClampNeg) (-1)) 24 p ((hI h 21 p 1).toNatClampNeg) ((hI h 9 0 (((nI o) + (nI 1)).toNatClampNeg)) - (nI 65))) 25 p ((hI h 21 p 1).toNatClampNeg) (nI 0)) 21 p 6 ((hI h 21 p 6) + (nI 1))) 21 p 7) ||| ((nI 1) <<< ((hI (setI (setI h 22 p ((hI h 21 p 1).toNatClampNeg) (-1)) 24 p ((hI h 21 p 1).toNatClampNeg) ((hI h 9 0 (((nI o) + (nI 1)).toNatClampNeg)) - (nI 65))) 24 p ((hI (setI (setI (setI (setI h 22 p ((hI h 21 p 1).toNatClampNeg) (-1)) 24 p ((hI h 21 p 1).toNatClampNeg) ((hI h 9 0 (((nI o) + (nI 1)).toNatClampNeg)) - (nI 65))) 25 p ((hI h 21 p 1).toNatClampNeg) (nI 0)) 21 p 6 ((hI h 21 p 6) + (nI 1))) 21 p 1).toNatClampNeg)) &&& 31)))) ∧ h.1 = h.1)))))))))))) ∧ (¬ (nI 0) = 0 → (vp_in ((nI o) + (nI 3)) 1920 ∧ (p < 12 ∧ (vp_in (hI h 21 p 1) 80 ∧ (p < 12 ∧ (p < 12 ∧ (p < 12 ∧ (p < 12 ∧ (p < 12 ∧ (p < 12 ∧ (vp_in (hI (setI (setI (setI (setI h 22 p ((hI h 21 p 1).toNatClampNeg) (-1)) 24 p ((hI h 21 p 1).toNatClampNeg) ((hI h 9 0 (((nI o) + (nI 1)).toNatClampNeg)) - (nI 65))) 25 p ((hI h 21 p 1).toNatClampNeg) ((hI h 9 0 (((nI o) + (nI 3)).toNatClampNeg)) - (nI 48))) 21 p 6 ((hI h 21 p 6) + (nI 1))) 21 p 1) 80 ∧ (p < 12 ∧ (Q none (setI (setI (setI (setI (setI h 22 p ((hI h 21 p 1).toNatClampNeg) (-1)) 24 p ((hI h 21 p 1).toNatClampNeg) ((hI h 9 0 (((nI o) + (nI 1)).toNatClampNeg)) - (nI 65))) 25 p ((hI h 21 p 1).toNatClampNeg) ((hI h 9 0 (((nI o) + (nI 3)).toNatClampNeg)) - (nI 48))) 21 p 6 ((hI h 21 p 6) + (nI 1))) 21 p 7 ((hI (setI (setI (setI (setI h 22 p ((hI h 21 p 1).toNatClampNeg) (-1)) 24 p ((hI h 21 p 1).toNatClampNeg) ((hI h 9 0 (((nI o) + (nI 1)).toNatClampNeg)) - (nI 65))) 25 p ((hI h 21 p 1).toNatClampNeg) ((hI h 9 0 (((nI o) + (nI 3)).toNatClampNeg)) - (nI 48))) 21 p 6 ((hI h 21 p 6) + (nI 1))) 21 p 7) ||| ((nI 1) <<< ((hI (setI (setI h 22 p ((hI h 21 p 1).toNatClampNeg) (-1)) 24 p ((hI h 21 p 1).toNatClampNeg) ((hI h 9 0 (((nI o) + (nI 1)).toNatClampNeg)) - (nI 65))) 24 p ((hI (setI (setI (setI (setI h 22 p ((hI h 21 p 1).toNatClampNeg) (-1)) 24 p ((hI h 21 p 1).toNatClampNeg) ((hI h 9 0 (((nI o) + (nI 1)).toNatClampNeg)) - (nI 65))) 25 p ((hI h 21 p 1).toNatClampNeg) ((hI h 9 0 (((nI o) + (nI 3)).toNatClampNeg)) - (nI 48))) 21 p 6 ((hI h 21 p 6) + (nI 1))) 21 p 1).toNatClampNeg)) &&& 31)))) ∧ h.1 = h.1)))))))))))))))))))))))))))) ∧ (¬ ((nI x) - (nI o)) ≤ (nI 4) → (p < 12 ∧ (p < 12 ∧ (p < 12 ∧ (vp_in (hI h 21 p 1) 80 ∧ (p < 12 ∧ (p < 12 ∧ ((((nI x) - (nI o)) ≤ (nI 1) → (p < 12 ∧ (p < 12 ∧ (vp_in (hI h 21 p 1) 80 ∧ (p < 12 ∧ (p < 12 ∧ (((nI 1) = 0 → (p < 12 ∧ (vp_in (hI h 21 p 1) 80 ∧ (p < 12 ∧ (p < 12 ∧ (p < 12 ∧ (p < 12 ∧ (p < 12 ∧ (p < 12 ∧ (vp_in (hI (setI (setI (setI (setI h 22 p ((hI h 21 p 1).toNatClampNeg) (-1)) 24 p ((hI h 21 p 1).toNatClampNeg) (hI h 21 p 0)) 25 p ((hI h 21 p 1).toNatClampNeg) (nI 0)) 21 p 6 ((hI h 21 p 6) + (nI 1))) 21 p 1) 80 ∧ (p < 12 ∧ (Q none (setI (setI (setI (setI (setI h 22 p ((hI h 21 p 1).toNatClampNeg) (-1)) 24 p ((hI h 21 p 1).toNatClampNeg) (hI h 21 p 0)) 25 p ((hI h 21 p 1).toNatClampNeg) (nI 0)) 21 p 6 ((hI h 21 p 6) + (nI 1))) 21 p 7 ((hI (setI (setI (setI (setI h 22 p ((hI h 21 p 1).toNatClampNeg) (-1)) 24 p ((hI h 21 p 1).toNatClampNeg) (hI h 21 p 0)) 25 p ((hI h 21 p 1).toNatClampNeg) (nI 0)) 21 p 6 ((hI h 21 p 6) + (nI 1))) 21 p 7) ||| ((nI 1) <<< ((hI (setI (setI h 22 p ((hI h 21 p 1).toNatClampNeg) (-1)) 24 p ((hI h 21 p 1).toNatClampNeg) (hI h 21 p 0)) 24 p ((hI (setI (setI (setI (setI h 22 p ((hI h 21 p 1).toNatClampNeg) (-1)) 24 p ((hI h 21 p 1).toNatClampNeg) (hI h 21 p 0)) 25 p ((hI h 21 p 1).toNatClampNeg) (nI 0)) 21 p 6 ((hI h 21 p 6) + (nI 1))) 21 p 1).toNatClampNeg)) &&& 31)))) ∧ h.1 = h.1)))))))))))) ∧ (¬ (nI 1) = 0 → (vp_in ((nI o) + (nI 3)) 1920 ∧ (p < 12 ∧ (vp_in (hI h 21 p 1) 80 ∧ (p < 12 ∧ (p < 12 ∧ (p < 12 ∧ (p < 12 ∧ (p < 12 ∧ (p < 12 ∧ (vp_in (hI (setI (setI (setI (setI h 22 p ((hI h 21 p 1).toNatClampNeg) (-1)) 24 p ((hI h 21 p 1).toNatClampNeg) (hI h 21 p 0)) 25 p ((hI h 21 p 1).toNatClampNeg) ((hI h 9 0 (((nI o) + (nI 3)).toNatClampNeg)) - (nI 48))) 21 p 6 ((hI h 21 p 6) + (nI 1))) 21 p 1) 80 ∧ (p < 12 ∧ (Q none (setI (setI (setI (setI (setI h 22 p ((hI h 21 p 1).toNatClampNeg) (-1)) 24 p ((hI h 21 p 1).toNatClampNeg) (hI h 21 p 0)) 25 p ((hI h 21 p 1).toNatClampNeg) ((hI h 9 0 (((nI o) + (nI 3)).toNatClampNeg)) - (nI 48))) 21 p 6 ((hI h 21 p 6) + (nI 1))) 21 p 7 ((hI (setI (setI (setI (setI h 22 p ((hI h 21 p 1).toNatClampNeg) (-1)) 24 p ((hI h 21 p 1).toNatClampNeg) (hI h 21 p 0)) 25 p ((hI h 21 p 1).toNatClampNeg) ((hI h 9 0 (((nI o) + (nI 3)).toNatClampNeg)) - (nI 48))) 21 p 6 ((hI h 21 p 6) + (nI 1))) 21 p 7) ||| ((nI 1) <<< ((hI (setI (setI h 22 p ((hI h 21 p 1).toNatClampNeg) (-1)) 24 p ((hI h 21 p 1).toNatClampNeg) (hI h 21 p 0)) 24 p ((hI (setI (setI (setI (setI h 22 p ((hI h 21 p 1).toNatClampNeg) (-1)) 24 p ((hI h 21 p 1).toNatClampNeg) (hI h 21 p 0)) 25 p ((hI h 21 p 1).toNatClampNeg) ((hI h 9 0 (((nI o) + (nI 3)).toNatClampNeg)) - (nI 48))) 21 p 6 ((hI h 21 p 6) + (nI 1))) 21 p 1).toNatClampNeg)) &&& 31)))) ∧ h.1 = h.1)))))))))))))))))))) ∧ (¬ ((nI x) - (nI o)) ≤ (nI 1) → (vp_in ((nI o) + (nI 1)) 1920 ∧ (p < 12 ∧ (vp_in (hI h 21 p 1) 80 ∧ (p < 12 ∧ (p < 12 ∧ (((nI 1) = 0 → (p < 12 ∧ (vp_in (hI h 21 p 1) 80 ∧ (p < 12 ∧ (p < 12 ∧ (p < 12 ∧ (p < 12 ∧ (p < 12 ∧ (p < 12 ∧ (vp_in (hI (setI (setI (setI (setI h 22 p ((hI h 21 p 1).toNatClampNeg) (-1)) 24 p ((hI h 21 p 1).toNatClampNeg) ((hI h 9 0 (((nI o) + (nI 1)).toNatClampNeg)) - (nI 65))) 25 p ((hI h 21 p 1).toNatClampNeg) (nI 0)) 21 p 6 ((hI h 21 p 6) + (nI 1))) 21 p 1) 80 ∧ (p < 12 ∧ (Q none (setI (setI (setI (setI (setI h 22 p ((hI h 21 p 1).toNatClampNeg) (-1)) 24 p ((hI h 21 p 1).toNatClampNeg) ((hI h 9 0 (((nI o) + (nI 1)).toNatClampNeg)) - (nI 65))) 25 p ((hI h 21 p 1).toNatClampNeg) (nI 0)) 21 p 6 ((hI h 21 p 6) + (nI 1))) 21 p 7 ((hI (setI (setI (setI (setI h 22 p ((hI h 21 p 1).toNatClampNeg) (-1)) 24 p ((hI h 21 p 1).toNatClampNeg) ((hI h 9 0 (((nI o) + (nI 1)).toNatClampNeg)) - (nI 65))) 25 p ((hI h 21 p 1).toNatClampNeg) (nI 0)) 21 p 6 ((hI h 21 p 6) + (nI 1))) 21 p 7) ||| ((nI 1) <<< ((hI (setI (setI h 22 p ((hI h 21 p 1).toNatClampNeg) (-1)) 24 p ((hI h 21 p 1).toNatClampNeg) ((hI h 9 0 (((nI o) + (nI 1)).toNatClampNeg)) - (nI 65))) 24 p ((hI (setI (setI (setI (setI h 22 p ((hI h 21 p 1).toNatClampNeg) (-1)) 24 p ((hI h 21 p 1).toNatClampNeg) ((hI h 9 0 (((nI o) + (nI 1)).toNatClampNeg)) - (nI 65))) 25 p ((hI h 21 p 1).toNatClampNeg) (nI 0)) 21 p 6 ((hI h 21 p 6) + (nI 1))) 21 p 1).toNatClampNeg)) &&& 31)))) ∧ h.1 = h.1)))))))))))) ∧ (¬ (nI 1) = 0 → (vp_in ((nI o) + (nI 3)) 1920 ∧ (p < 12 ∧ (vp_in (hI h 21 p 1) 80 ∧ (p < 12 ∧ (p < 12 ∧ (p < 12 ∧ (p < 12 ∧ (p < 12 ∧ (p < 12 ∧ (vp_in (hI (setI (setI (setI (setI h 22 p ((hI h 21 p 1).toNatClampNeg) (-1)) 24 p ((hI h 21 p 1).toNatClampNeg) ((hI h 9 0 (((nI o) + (nI 1)).toNatClampNeg)) - (nI 65))) 25 p ((hI h 21 p 1).toNatClampNeg) ((hI h 9 0 (((nI o) + (nI 3)).toNatClampNeg)) - (nI 48))) 21 p 6 ((hI h 21 p 6) + (nI 1))) 21 p 1) 80 ∧ (p < 12 ∧ (Q none (setI (setI (setI (setI (setI h 22 p ((hI h 21 p 1).toNatClampNeg) (-1)) 24 p ((hI h 21 p 1).toNatClampNeg) ((hI h 9 0 (((nI o) + (nI 1)).toNatClampNeg)) - (nI 65))) 25 p ((hI h 21 p 1).toNatClampNeg) ((hI h 9 0 (((nI o) + (nI 3)).toNatClampNeg)) - (nI 48))) 21 p 6 ((hI h 21 p 6) + (nI 1))) 21 p 7 ((hI (setI (setI (setI (setI h 22 p ((hI h 21 p 1).toNatClampNeg) (-1)) 24 p ((hI h 21 p 1).toNatClampNeg) ((hI h 9 0 (((nI o) + (nI 1)).toNatClampNeg)) - (nI 65))) 25 p ((hI h 21 p 1).toNatClampNeg) ((hI h 9 0 (((nI o) + (nI 3)).toNatClampNeg)) - (nI 48))) 21 p 6 ((hI h 21 p 6) + (nI 1))) 21 p 7) ||| ((nI 1) <<< ((hI (setI (setI h 22 p ((hI h 21 p 1).toNatClampNeg) (-1)) 24 p ((hI h 21 p 1).toNatClampNeg) ((hI h 9 0 (((nI o) + (nI 1)).toNatClampNeg)) - (nI 65))) 24 p ((hI (setI (setI (setI (setI h 22 p ((hI h 21 p 1).toNatClampNeg) (-1)) 24 p ((hI h 21 p 1).toNatClampNeg) ((hI h 9 0 (((nI o) + (nI 1)).toNatClampNeg)) - (nI 65))) 25 p ((hI h 21 p 1).toNatClampNeg) ((hI h 9 0 (((nI o) + (nI 3)).toNatClampNeg)) - (nI 48))) 21 p 6 ((hI h 21 p 6) + (nI 1))) 21 p 1).toNatClampNeg)) &&& 31)))) ∧ h.1 = h.1)))))))))))))))))))))))))))))
  have e1 : nI x - nI o = nI (x - o) := subN (by omega)
  have e2 : nI (65 + q) - nI 65 = nI q := by rw [subN (by omega)]; congr 1; omega
  have i1 : vp_in (nI j) 80 := inb (by omega) (by omega)
  cases s with
  | none =>
    have hx : x = o + 3 := hx
    have e3 : x - o = 3 := by omega
    have i2 : vp_in (nI (o + 1)) 1920 := inb (by omega) (by omega)
    simp (disch := omega) only [true_and, and_true, hI_s, hI_k, hI_f, hI_sL, hL_sI, hL_s, hL_k, hL_f, addN, ix, hp, h1, h6, e1, e3, t1, e2, i1, i2]
    refine ⟨fun _ => ⟨fun g => absurd g (by decide), fun _ => ⟨fun _ => hq, fun g => absurd rfl g⟩⟩, fun g => absurd (by decide) g⟩
  | some y =>
    have hx : x = o + 5 := hx
    have e3 : x - o = 5 := by omega
    have t3 : hI h 9 0 (o + 3) = nI (48 + y) := ht.2.2.2.1
    have hy := hs y rfl
    have e4 : nI (48 + y) - nI 48 = nI y := by rw [subN (by omega)]; congr 1; omega
    have i2 : vp_in (nI (o + 1)) 1920 := inb (by omega) (by omega)
    have i3 : vp_in (nI (o + 3)) 1920 := inb (by omega) (by omega)
    simp (disch := omega) only [true_and, and_true, hI_s, hI_k, hI_f, hI_sL, hL_sI, hL_s, hL_k, hL_f, addN, ix, hp, h1, h6, e1, e3, t1, e2, i1, i2, i3, t3, e4]
    refine ⟨fun g => absurd g (by decide), fun _ => ⟨fun g => absurd g (by decide), fun _ => ⟨fun g => absurd g (by decide), fun _ => hq⟩⟩⟩
