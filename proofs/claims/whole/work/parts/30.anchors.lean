/-! anchors as longs -/
theorem vin {i n : Nat} (hi : i < 2147483648) (hn : n < 2147483648) : vp_in (nI i) n ↔ i < n := by
  constructor
  · intro h
    refine Nat.not_le.mp fun q => h (Or.inr ?_)
    rw [ix hi]
    exact q
  · intro h
    exact inb h hn
theorem Sat_no {md : Bool} {d mi : Nat} {B : Nat × Nat × Nat} {Q : Option AV → Hp → Prop} {pc : Nat} {ls : Ls} {st : List AV} {σ : Hp} (i : Nat) (h : Sat md d mi B Q pc (ls.set i none) st σ) : Sat md d mi B Q pc ls st σ := by
  intro me hm p l e R s m args below meth c Qm D dT z b n0 t0 cx b1 b2 hz k H locs arr kc ks hi hs hl e1 e2
  refine h me hm p l e R s m args below meth c Qm D dT z b n0 t0 cx b1 b2 hz k H locs arr kc ks hi hs ?_ e1 e2
  obtain ⟨l1, l2, l3, l4⟩ := hl
  refine ⟨l1, l2, by rw [List.length_set]; exact l3, fun j v hv => l4 j v ?_⟩
  rw [List.getElem?_set] at hv
  by_cases q : i = j
  · rw [if_pos q] at hv
    split at hv
    · cases hv
    · cases hv
  · rw [if_neg q] at hv
    exact hv
def sy (c : Nat) : Nat := if 97 ≤ c then c - 96 else c - 21
def nmR : List Nat → Nat
  | [] => 0
  | c :: r => nmR r * 64 + sy c
def nmC (w : List Nat) : Nat := nmR w.reverse
def anC (a : Anc) : Nat := nmC a.1 * 128 + a.2
def anO (a : Option Anc) : Nat := match a with
  | none => 0
  | some x => anC x
def txO (a : Option Anc) : List Nat := match a with
  | none => []
  | some x => txAnc x
def gAO (a : Option Anc) : Prop := ∀ x, a = some x → gAnc x
theorem sy_b {c : Nat} (h : isLt c ∨ isDg c) : 1 ≤ sy c ∧ sy c ≤ 36 := by
  unfold sy
  rcases h with ⟨h1, h2⟩ | ⟨h1, h2⟩
  · rw [if_pos h1]; omega
  · rw [if_neg (by omega)]; omega
theorem ld_s {c : Nat} (h : isLt c ∨ isDg c) : c < 128 := by
  rcases h with ⟨h1, h2⟩ | ⟨h1, h2⟩ <;> omega
theorem sy_inj {c e : Nat} (h : isLt c ∨ isDg c) (g : isLt e ∨ isDg e) (q : sy c = sy e) : c = e := by
  unfold sy at q
  rcases h with ⟨h1, h2⟩ | ⟨h1, h2⟩
  · rw [if_pos h1] at q
    rcases g with ⟨g1, g2⟩ | ⟨g1, g2⟩
    · rw [if_pos g1] at q; omega
    · rw [if_neg (by omega)] at q; omega
  · rw [if_neg (by omega)] at q
    rcases g with ⟨g1, g2⟩ | ⟨g1, g2⟩
    · rw [if_pos g1] at q; omega
    · rw [if_neg (by omega)] at q; omega
theorem nmC_app (w : List Nat) (c : Nat) : nmC (w ++ [c]) = nmC w * 64 + sy c := by
  unfold nmC
  rw [List.reverse_append]
  rfl
theorem gRest_c {c : Nat} {r : List Nat} (h : gRest (c :: r)) : (isLt c ∨ isDg c) ∧ gRest r := ⟨h c List.mem_cons_self, fun x hx => h x (List.mem_cons_of_mem c hx)⟩
theorem gRest_a {w v : List Nat} (h : gRest (w ++ v)) : gRest w ∧ gRest v := ⟨fun x hx => h x (List.mem_append.mpr (Or.inl hx)), fun x hx => h x (List.mem_append.mpr (Or.inr hx))⟩
theorem gRest_rev {w : List Nat} (h : gRest w) : gRest w.reverse := fun x hx => h x (List.mem_reverse.mp hx)
theorem gName_r {w : List Nat} (h : gName w) : gRest w ∧ 1 ≤ w.length ∧ w.length ≤ 8 := by
  obtain ⟨c, r, rfl, h1, h2, h3⟩ := h
  refine ⟨fun x hx => ?_, ?_, ?_⟩
  · cases hx with
    | head => exact Or.inl h1
    | tail _ q => exact h2 x q
  · rw [List.length_cons]; omega
  · rw [List.length_cons]; omega
theorem nmR_lt : ∀ (r : List Nat), gRest r → nmR r < 64 ^ r.length := by
  intro r
  induction r with
  | nil => intro _; decide
  | cons c r ih =>
    intro h
    obtain ⟨h1, h2⟩ := gRest_c h
    have := ih h2
    have := sy_b h1
    show nmR r * 64 + sy c < 64 ^ (r.length + 1)
    rw [Nat.pow_succ]
    omega
theorem nmR_inj : ∀ (r s : List Nat), gRest r → gRest s → nmR r = nmR s → r = s := by
  intro r
  induction r with
  | nil =>
    intro s _ h q
    cases s with
    | nil => rfl
    | cons e s =>
      have := sy_b (gRest_c h).1
      have q : 0 = nmR s * 64 + sy e := q
      omega
  | cons c r ih =>
    intro s hr hs q
    have h1 := sy_b (gRest_c hr).1
    cases s with
    | nil =>
      have q : nmR r * 64 + sy c = 0 := q
      omega
    | cons e s =>
      have h2 := sy_b (gRest_c hs).1
      have q : nmR r * 64 + sy c = nmR s * 64 + sy e := q
      have e1 : sy c = sy e := by omega
      have e2 : nmR r = nmR s := by omega
      rw [sy_inj (gRest_c hr).1 (gRest_c hs).1 e1, ih s (gRest_c hr).2 (gRest_c hs).2 e2]
theorem nmC_inj {w v : List Nat} (hw : gRest w) (hv : gRest v) (h : nmC w = nmC v) : w = v := by
  have := nmR_inj _ _ (gRest_rev hw) (gRest_rev hv) h
  exact List.reverse_inj.mp this
theorem nmC_b {w : List Nat} (h : gName w) : 1 ≤ nmC w ∧ nmC w < 281474976710656 := by
  obtain ⟨h1, h2, h3⟩ := gName_r h
  constructor
  · refine Nat.pos_of_ne_zero fun q => ?_
    have := nmC_inj (v := []) h1 (fun x hx => by cases hx) q
    rw [this] at h2
    cases h2
  · have := nmR_lt _ (gRest_rev h1)
    rw [List.length_reverse] at this
    have : 64 ^ w.length ≤ 64 ^ 8 := Nat.pow_le_pow_right (by decide) h3
    unfold nmC
    omega
theorem anC_b {a : Anc} (h : gAnc a) : 128 ≤ anC a ∧ anC a < 36028797018963968 := by
  obtain ⟨h1, h2⟩ := h
  have := nmC_b h1
  unfold anC
  omega
theorem anO_b {a : Option Anc} (h : gAO a) : anO a < 36028797018963968 := by
  cases a with
  | none => exact (by decide : 0 < 36028797018963968)
  | some x => exact (anC_b (h x rfl)).2
theorem anC_inj {a b : Anc} (ha : gAnc a) (hb : gAnc b) (h : anC a = anC b) : a = b := by
  obtain ⟨w, k⟩ := a
  obtain ⟨v, j⟩ := b
  obtain ⟨a1, a2⟩ := ha
  obtain ⟨b1, b2⟩ := hb
  have h : nmC w * 128 + k = nmC v * 128 + j := h
  dsimp only at a2 b2
  have e1 : w = v := nmC_inj (gName_r a1).1 (gName_r b1).1 (by omega)
  have e2 : k = j := by omega
  rw [e1, e2]
theorem anO_inj {a b : Option Anc} (ha : gAO a) (hb : gAO b) : anO a = anO b ↔ a = b := by
  constructor
  · intro h
    cases a with
    | none =>
      cases b with
      | none => rfl
      | some y =>
        have := (anC_b (hb y rfl)).1
        have h : 0 = anC y := h
        omega
    | some x =>
      have := (anC_b (ha x rfl)).1
      cases b with
      | none =>
        have h : anC x = 0 := h
        omega
      | some y => rw [anC_inj (ha x rfl) (hb y rfl) h]
  · rintro rfl; rfl
theorem lO_inj {a b : Option Anc} (ha : gAO a) (hb : gAO b) : lN (anO a) = lN (anO b) ↔ a = b := by
  have h1 := anO_b ha
  have h2 := anO_b hb
  rw [fb_lN_inj (by omega) (by omega), anO_inj ha hb]
theorem lO_0 {a : Option Anc} (ha : gAO a) : lN (anO a) = lN 0 ↔ a = none := lO_inj ha (b := none) (fun x h => by cases h)
theorem nmR_div : ∀ (k : Nat) (r : List Nat), gRest r → nmR r / 64 ^ k = nmR (r.drop k) := by
  intro k
  induction k with
  | zero => intro r _; rw [Nat.pow_zero, Nat.div_one]; rfl
  | succ k ih =>
    intro r h
    cases r with
    | nil => show 0 / _ = 0; exact Nat.zero_div _
    | cons c r =>
      obtain ⟨h1, h2⟩ := gRest_c h
      have := sy_b h1
      show (nmR r * 64 + sy c) / 64 ^ (k + 1) = nmR (r.drop k)
      rw [Nat.pow_succ, Nat.mul_comm (64 ^ k) 64, ← Nat.div_div_eq_div_mul, ← ih r h2]
      congr 1
      omega
theorem pw6 (k : Nat) : (2 : Nat) ^ (6 * k) = 64 ^ k := by rw [Nat.pow_mul]
/-! the class's Anchors -/
theorem e_numbered (d : Nat) (σ : Hp) {w : List Nat} {k : Nat} (hw : gName w) (hk : k ≤ 99) : EL d 1 [vl (lN (nmC w)), vi (nI k)] σ (lN (anC (w, k))) σ := by
  refine EL_of mt_1 (Nat.le_of_ble_eq_true rfl) fun Q hq => ?_
  refine wp_ok (cut := []) ma_1 rfl 7 _ _ _ _ ?_
  show (Q (some (vl (((lN (nmC w)) <<< ((nI 7).toInt64 &&& 63)) ||| ((nI k).toInt64)))) σ ∧ σ.1 = σ.1)
  have := nmC_b hw
  rw [wb_shl _ (by omega), i2l_n (by omega), fb_orL, Nat.mul_comm (nmC w), ← Nat.two_pow_add_eq_or_of_lt (by omega), Nat.mul_comm (2 ^ 7)]
  exact ⟨hq, rfl⟩
theorem e_nameOf (d : Nat) (σ : Hp) {n : Nat} (hn : n < 36028797018963968) : EL d 2 [vl (lN n)] σ (lN (n / 128)) σ := by
  refine EL_of mt_2 (Nat.le_of_ble_eq_true rfl) fun Q hq => ?_
  refine wp_ok (cut := []) ma_2 rfl 4 _ _ _ _ ?_
  show (Q (some (vl (((lN n).toUInt64 >>> ((nI 7).toInt64.toUInt64 &&& Int64.toUInt64 63)).toInt64))) σ ∧ σ.1 = σ.1)
  rw [wb_shr (by omega) (by omega)]
  exact ⟨hq, rfl⟩
theorem s_name2 (d : Nat) (σ : Hp) (fr to : Int32) : ∀ (w v : List Nat) (a x : Nat), gRest (v ++ w) → (v ++ w).length ≤ 8 → Tx (hI σ 2 0) a w → a + w.length = x → x ≤ 160 → ∀ Q : Option AV → Hp → Prop, Q (some (vl (lN (nmC (v ++ w))))) σ → Sat true d 0 σ.1 Q 5 [some (vr 2 0), some (vi fr), some (vi (nI x)), some (vl (lN (nmC v))), none, some (vi (nI a)), none] [] σ := by
  intro w
  induction w with
  | nil =>
    intro v a x hg hl ht hx hN Q hq
    have : a = x := hx
    subst this
    rw [List.append_nil] at hq
    refine wp_ok (cut := [5]) ma_0 rfl 24 _ _ _ _ ?_
    show (((nI a) ≤ (nI a) → (Q (some (vl (lN (nmC v)))) σ ∧ σ.1 = σ.1)) ∧ (¬ (nI a) ≤ (nI a) → (vp_in (nI a) 160 ∧ (((hI σ 2 0 ((nI a).toNatClampNeg)) < (nI 97) → Sat true d 0 σ.1 Q 5 [some (vr 2 0), some (vi fr), some (vi (nI a)), some (vl (((lN (nmC v)) <<< ((nI 6).toInt64 &&& 63)) ||| ((((hI σ 2 0 ((nI a).toNatClampNeg)) - (nI 48)) + (nI 27)).toInt64))), none, some (vi ((nI a) + nI 1)), some (vi (hI σ 2 0 ((nI a).toNatClampNeg)))] [] σ) ∧ (¬ (hI σ 2 0 ((nI a).toNatClampNeg)) < (nI 97) → Sat true d 0 σ.1 Q 5 [some (vr 2 0), some (vi fr), some (vi (nI a)), some (vl (((lN (nmC v)) <<< ((nI 6).toInt64 &&& 63)) ||| ((((hI σ 2 0 ((nI a).toNatClampNeg)) - (nI 97)) + (nI 1)).toInt64))), none, some (vi ((nI a) + nI 1)), some (vi (hI σ 2 0 ((nI a).toNatClampNeg)))] [] σ)))))
    exact ⟨fun _ => ⟨hq, rfl⟩, fun h => absurd (Int32.le_refl _) h⟩
  | cons c w ih =>
    intro v a x hg hl ht hx hN Q hq
    obtain ⟨t1, t2⟩ := ht
    rw [List.length_cons] at hx
    have e : v ++ c :: w = (v ++ [c]) ++ w := by rw [List.append_assoc]; rfl
    rw [e] at hg hl hq
    have k := ih (v ++ [c]) (a + 1) x hg hl t2 (by omega) hN Q hq
    have hc : isLt c ∨ isDg c := hg c (by rw [List.append_assoc]; exact List.mem_append.mpr (Or.inr List.mem_cons_self))
    have hb := sy_b hc
    have hv := nmR_lt _ (gRest_rev (gRest_a (gRest_a hg).1).1)
    have hv2 : nmC v < 64 ^ 8 := by
      refine Nat.lt_of_lt_of_le hv (Nat.pow_le_pow_right (by decide) ?_)
      rw [List.length_reverse]
      rw [List.length_append, List.length_append] at hl
      omega
    have fin : lN (nmC v) <<< ((nI 6).toInt64 &&& 63) ||| (nI (sy c)).toInt64 = lN (nmC (v ++ [c])) := by
      rw [wb_shl _ (by omega), i2l_n (by omega), fb_orL, nmC_app, Nat.mul_comm (nmC v), ← Nat.two_pow_add_eq_or_of_lt (by omega), Nat.mul_comm (2 ^ 6)]
    refine wp_ok (cut := [5]) ma_0 rfl 24 _ _ _ _ ?_
    show (((nI x) ≤ (nI a) → (Q (some (vl (lN (nmC v)))) σ ∧ σ.1 = σ.1)) ∧ (¬ (nI x) ≤ (nI a) → (vp_in (nI a) 160 ∧ (((hI σ 2 0 ((nI a).toNatClampNeg)) < (nI 97) → Sat true d 0 σ.1 Q 5 [some (vr 2 0), some (vi fr), some (vi (nI x)), some (vl (((lN (nmC v)) <<< ((nI 6).toInt64 &&& 63)) ||| ((((hI σ 2 0 ((nI a).toNatClampNeg)) - (nI 48)) + (nI 27)).toInt64))), none, some (vi ((nI a) + nI 1)), some (vi (hI σ 2 0 ((nI a).toNatClampNeg)))] [] σ) ∧ (¬ (hI σ 2 0 ((nI a).toNatClampNeg)) < (nI 97) → Sat true d 0 σ.1 Q 5 [some (vr 2 0), some (vi fr), some (vi (nI x)), some (vl (((lN (nmC v)) <<< ((nI 6).toInt64 &&& 63)) ||| ((((hI σ 2 0 ((nI a).toNatClampNeg)) - (nI 97)) + (nI 1)).toInt64))), none, some (vi ((nI a) + nI 1)), some (vi (hI σ 2 0 ((nI a).toNatClampNeg)))] [] σ)))))
    refine br_le (by omega) (by omega) (fun h => by omega) (fun h => ?_)
    rw [ix (by omega), t1, addN]
    refine ⟨inb (by omega) (by omega), ?_⟩
    have c2 : c < 128 := ld_s hc
    refine br_lt (by omega) (by omega) (fun g => ?_) (fun g => ?_)
    · have e1 : nI c - nI 48 + nI 27 = nI (sy c) := by
        rcases hc with q | q
        · unfold isLt at q; omega
        · unfold isDg at q
          rw [subN (by omega), addN]
          unfold sy
          rw [if_neg (by omega)]
          congr 1
          omega
      rw [e1, fin]
      exact Sat_no 6 k
    · have e1 : nI c - nI 97 + nI 1 = nI (sy c) := by
        rw [subN (by omega), addN]
        unfold sy
        rw [if_pos (by omega)]
        congr 1
        omega
      rw [e1, fin]
      exact Sat_no 6 k
theorem e_nameIn2 (d : Nat) {σ : Hp} {w : List Nat} {a x : Nat} (hw : gName w) (ht : Tx (hI σ 2 0) a w) (hx : x = a + w.length) (hN : x ≤ 160) : EL d 0 [vr 2 0, vi (nI a), vi (nI x)] σ (lN (nmC w)) σ := by
  refine EL_of mt_0 (Nat.le_of_ble_eq_true rfl) fun Q hq => ?_
  obtain ⟨h1, h2, h3⟩ := gName_r hw
  refine wp_ok (cut := [5]) ma_0 rfl 4 _ _ _ _ ?_
  show Sat true d 0 σ.1 Q 5 [some (vr 2 0), some (vi (nI a)), some (vi (nI x)), some (vl (lN 0)), none, some (vi (nI a)), none] [] σ
  exact s_name2 d σ (nI a) (nI x) w [] a x h1 h3 ht hx.symm hN Q hq
/-- the first place of a sign: behind w, where it stands, or at the end -/
theorem s_index2 (d : Nat) (σ : Hp) (fr : Int32) {c : Nat} (hc : c < 128) : ∀ (w : List Nat) (a x : Nat), (∀ y ∈ w, y < 128 ∧ y ≠ c) → Tx (hI σ 2 0) a w → a + w.length ≤ x → (a + w.length < x → hI σ 2 0 (a + w.length) = nI c) → x ≤ 160 → ∀ Q : Option AV → Hp → Prop, Q (some (vi (nI (a + w.length)))) σ → Sat true d 4 σ.1 Q 3 [some (vr 2 0), some (vi fr), some (vi (nI x)), some (vi (nI c)), some (vi (nI a))] [] σ := by
  intro w
  induction w with
  | nil =>
    intro a x hy ht hx he hN Q hq
    have hx : a ≤ x := hx
    have he : a < x → hI σ 2 0 a = nI c := he
    refine wp_ok (cut := [3]) ma_4 rfl 10 _ _ _ _ ?_
    show (((nI x) ≤ (nI a) → (Q (some (vi (nI a))) σ ∧ σ.1 = σ.1)) ∧ (¬ (nI x) ≤ (nI a) → (vp_in (nI a) 160 ∧ (((hI σ 2 0 ((nI a).toNatClampNeg)) = (nI c) → (Q (some (vi (nI a))) σ ∧ σ.1 = σ.1)) ∧ (¬ (hI σ 2 0 ((nI a).toNatClampNeg)) = (nI c) → Sat true d 4 σ.1 Q 3 [some (vr 2 0), some (vi fr), some (vi (nI x)), some (vi (nI c)), some (vi ((nI a) + nI 1))] [] σ)))))
    refine br_le (by omega) (by omega) (fun h => ⟨hq, rfl⟩) (fun h => ?_)
    rw [ix (by omega), he h]
    exact ⟨inb (by omega) (by omega), fun _ => ⟨hq, rfl⟩, fun h => absurd rfl h⟩
  | cons y w ih =>
    intro a x hy ht hx he hN Q hq
    obtain ⟨t1, t2⟩ := ht
    have el : a + (y :: w).length = a + 1 + w.length := by rw [List.length_cons]; omega
    rw [el] at hx he hq
    have k := ih (a + 1) x (fun z hz => hy z (List.mem_cons_of_mem _ hz)) t2 hx he hN Q hq
    obtain ⟨y1, y2⟩ := hy y List.mem_cons_self
    refine wp_ok (cut := [3]) ma_4 rfl 10 _ _ _ _ ?_
    show (((nI x) ≤ (nI a) → (Q (some (vi (nI a))) σ ∧ σ.1 = σ.1)) ∧ (¬ (nI x) ≤ (nI a) → (vp_in (nI a) 160 ∧ (((hI σ 2 0 ((nI a).toNatClampNeg)) = (nI c) → (Q (some (vi (nI a))) σ ∧ σ.1 = σ.1)) ∧ (¬ (hI σ 2 0 ((nI a).toNatClampNeg)) = (nI c) → Sat true d 4 σ.1 Q 3 [some (vr 2 0), some (vi fr), some (vi (nI x)), some (vi (nI c)), some (vi ((nI a) + nI 1))] [] σ)))))
    refine br_le (by omega) (by omega) (fun h => by omega) (fun h => ?_)
    rw [ix (by omega), t1, addN]
    exact ⟨inb (by omega) (by omega), br_eq (by omega) (by omega) (fun q => absurd q y2) (fun _ => k)⟩
theorem e_indexOf2 (d : Nat) {σ : Hp} {c : Nat} (hc : c < 128) {w : List Nat} {a x : Nat} (hy : ∀ y ∈ w, y < 128 ∧ y ≠ c) (ht : Tx (hI σ 2 0) a w) (hx : a + w.length ≤ x) (he : a + w.length < x → hI σ 2 0 (a + w.length) = nI c) (hN : x ≤ 160) : EI d 4 [vr 2 0, vi (nI a), vi (nI x), vi (nI c)] σ (nI (a + w.length)) σ := by
  refine EI_of mt_4 (Nat.le_of_ble_eq_true rfl) fun Q hq => ?_
  refine wp_ok (cut := [3]) ma_4 rfl 2 _ _ _ _ ?_
  show Sat true d 4 σ.1 Q 3 [some (vr 2 0), some (vi (nI a)), some (vi (nI x)), some (vi (nI c)), some (vi (nI a))] [] σ
  exact s_index2 d σ (nI a) hc w a x hy ht hx he hN Q hq
theorem s_name9 (d : Nat) (σ : Hp) (fr to : Int32) : ∀ (w v : List Nat) (a x : Nat), gRest (v ++ w) → (v ++ w).length ≤ 8 → Tx (hI σ 9 0) a w → a + w.length = x → x ≤ 1920 → ∀ Q : Option AV → Hp → Prop, Q (some (vl (lN (nmC (v ++ w))))) σ → Sat true d 0 σ.1 Q 5 [some (vr 9 0), some (vi fr), some (vi (nI x)), some (vl (lN (nmC v))), none, some (vi (nI a)), none] [] σ := by
  intro w
  induction w with
  | nil =>
    intro v a x hg hl ht hx hN Q hq
    have : a = x := hx
    subst this
    rw [List.append_nil] at hq
    refine wp_ok (cut := [5]) ma_0 rfl 24 _ _ _ _ ?_
    show (((nI a) ≤ (nI a) → (Q (some (vl (lN (nmC v)))) σ ∧ σ.1 = σ.1)) ∧ (¬ (nI a) ≤ (nI a) → (vp_in (nI a) 1920 ∧ (((hI σ 9 0 ((nI a).toNatClampNeg)) < (nI 97) → Sat true d 0 σ.1 Q 5 [some (vr 9 0), some (vi fr), some (vi (nI a)), some (vl (((lN (nmC v)) <<< ((nI 6).toInt64 &&& 63)) ||| ((((hI σ 9 0 ((nI a).toNatClampNeg)) - (nI 48)) + (nI 27)).toInt64))), none, some (vi ((nI a) + nI 1)), some (vi (hI σ 9 0 ((nI a).toNatClampNeg)))] [] σ) ∧ (¬ (hI σ 9 0 ((nI a).toNatClampNeg)) < (nI 97) → Sat true d 0 σ.1 Q 5 [some (vr 9 0), some (vi fr), some (vi (nI a)), some (vl (((lN (nmC v)) <<< ((nI 6).toInt64 &&& 63)) ||| ((((hI σ 9 0 ((nI a).toNatClampNeg)) - (nI 97)) + (nI 1)).toInt64))), none, some (vi ((nI a) + nI 1)), some (vi (hI σ 9 0 ((nI a).toNatClampNeg)))] [] σ)))))
    exact ⟨fun _ => ⟨hq, rfl⟩, fun h => absurd (Int32.le_refl _) h⟩
  | cons c w ih =>
    intro v a x hg hl ht hx hN Q hq
    obtain ⟨t1, t2⟩ := ht
    rw [List.length_cons] at hx
    have e : v ++ c :: w = (v ++ [c]) ++ w := by rw [List.append_assoc]; rfl
    rw [e] at hg hl hq
    have k := ih (v ++ [c]) (a + 1) x hg hl t2 (by omega) hN Q hq
    have hc : isLt c ∨ isDg c := hg c (by rw [List.append_assoc]; exact List.mem_append.mpr (Or.inr List.mem_cons_self))
    have hb := sy_b hc
    have hv := nmR_lt _ (gRest_rev (gRest_a (gRest_a hg).1).1)
    have hv2 : nmC v < 64 ^ 8 := by
      refine Nat.lt_of_lt_of_le hv (Nat.pow_le_pow_right (by decide) ?_)
      rw [List.length_reverse]
      rw [List.length_append, List.length_append] at hl
      omega
    have fin : lN (nmC v) <<< ((nI 6).toInt64 &&& 63) ||| (nI (sy c)).toInt64 = lN (nmC (v ++ [c])) := by
      rw [wb_shl _ (by omega), i2l_n (by omega), fb_orL, nmC_app, Nat.mul_comm (nmC v), ← Nat.two_pow_add_eq_or_of_lt (by omega), Nat.mul_comm (2 ^ 6)]
    refine wp_ok (cut := [5]) ma_0 rfl 24 _ _ _ _ ?_
    show (((nI x) ≤ (nI a) → (Q (some (vl (lN (nmC v)))) σ ∧ σ.1 = σ.1)) ∧ (¬ (nI x) ≤ (nI a) → (vp_in (nI a) 1920 ∧ (((hI σ 9 0 ((nI a).toNatClampNeg)) < (nI 97) → Sat true d 0 σ.1 Q 5 [some (vr 9 0), some (vi fr), some (vi (nI x)), some (vl (((lN (nmC v)) <<< ((nI 6).toInt64 &&& 63)) ||| ((((hI σ 9 0 ((nI a).toNatClampNeg)) - (nI 48)) + (nI 27)).toInt64))), none, some (vi ((nI a) + nI 1)), some (vi (hI σ 9 0 ((nI a).toNatClampNeg)))] [] σ) ∧ (¬ (hI σ 9 0 ((nI a).toNatClampNeg)) < (nI 97) → Sat true d 0 σ.1 Q 5 [some (vr 9 0), some (vi fr), some (vi (nI x)), some (vl (((lN (nmC v)) <<< ((nI 6).toInt64 &&& 63)) ||| ((((hI σ 9 0 ((nI a).toNatClampNeg)) - (nI 97)) + (nI 1)).toInt64))), none, some (vi ((nI a) + nI 1)), some (vi (hI σ 9 0 ((nI a).toNatClampNeg)))] [] σ)))))
    refine br_le (by omega) (by omega) (fun h => by omega) (fun h => ?_)
    rw [ix (by omega), t1, addN]
    refine ⟨inb (by omega) (by omega), ?_⟩
    have c2 : c < 128 := ld_s hc
    refine br_lt (by omega) (by omega) (fun g => ?_) (fun g => ?_)
    · have e1 : nI c - nI 48 + nI 27 = nI (sy c) := by
        rcases hc with q | q
        · unfold isLt at q; omega
        · unfold isDg at q
          rw [subN (by omega), addN]
          unfold sy
          rw [if_neg (by omega)]
          congr 1
          omega
      rw [e1, fin]
      exact Sat_no 6 k
    · have e1 : nI c - nI 97 + nI 1 = nI (sy c) := by
        rw [subN (by omega), addN]
        unfold sy
        rw [if_pos (by omega)]
        congr 1
        omega
      rw [e1, fin]
      exact Sat_no 6 k
theorem e_nameIn9 (d : Nat) {σ : Hp} {w : List Nat} {a x : Nat} (hw : gName w) (ht : Tx (hI σ 9 0) a w) (hx : x = a + w.length) (hN : x ≤ 1920) : EL d 0 [vr 9 0, vi (nI a), vi (nI x)] σ (lN (nmC w)) σ := by
  refine EL_of mt_0 (Nat.le_of_ble_eq_true rfl) fun Q hq => ?_
  obtain ⟨h1, h2, h3⟩ := gName_r hw
  refine wp_ok (cut := [5]) ma_0 rfl 4 _ _ _ _ ?_
  show Sat true d 0 σ.1 Q 5 [some (vr 9 0), some (vi (nI a)), some (vi (nI x)), some (vl (lN 0)), none, some (vi (nI a)), none] [] σ
  exact s_name9 d σ (nI a) (nI x) w [] a x h1 h3 ht hx.symm hN Q hq
/-- the first place of a sign: behind w, where it stands, or at the end -/
theorem s_index9 (d : Nat) (σ : Hp) (fr : Int32) {c : Nat} (hc : c < 128) : ∀ (w : List Nat) (a x : Nat), (∀ y ∈ w, y < 128 ∧ y ≠ c) → Tx (hI σ 9 0) a w → a + w.length ≤ x → (a + w.length < x → hI σ 9 0 (a + w.length) = nI c) → x ≤ 1920 → ∀ Q : Option AV → Hp → Prop, Q (some (vi (nI (a + w.length)))) σ → Sat true d 4 σ.1 Q 3 [some (vr 9 0), some (vi fr), some (vi (nI x)), some (vi (nI c)), some (vi (nI a))] [] σ := by
  intro w
  induction w with
  | nil =>
    intro a x hy ht hx he hN Q hq
    have hx : a ≤ x := hx
    have he : a < x → hI σ 9 0 a = nI c := he
    refine wp_ok (cut := [3]) ma_4 rfl 10 _ _ _ _ ?_
    show (((nI x) ≤ (nI a) → (Q (some (vi (nI a))) σ ∧ σ.1 = σ.1)) ∧ (¬ (nI x) ≤ (nI a) → (vp_in (nI a) 1920 ∧ (((hI σ 9 0 ((nI a).toNatClampNeg)) = (nI c) → (Q (some (vi (nI a))) σ ∧ σ.1 = σ.1)) ∧ (¬ (hI σ 9 0 ((nI a).toNatClampNeg)) = (nI c) → Sat true d 4 σ.1 Q 3 [some (vr 9 0), some (vi fr), some (vi (nI x)), some (vi (nI c)), some (vi ((nI a) + nI 1))] [] σ)))))
    refine br_le (by omega) (by omega) (fun h => ⟨hq, rfl⟩) (fun h => ?_)
    rw [ix (by omega), he h]
    exact ⟨inb (by omega) (by omega), fun _ => ⟨hq, rfl⟩, fun h => absurd rfl h⟩
  | cons y w ih =>
    intro a x hy ht hx he hN Q hq
    obtain ⟨t1, t2⟩ := ht
    have el : a + (y :: w).length = a + 1 + w.length := by rw [List.length_cons]; omega
    rw [el] at hx he hq
    have k := ih (a + 1) x (fun z hz => hy z (List.mem_cons_of_mem _ hz)) t2 hx he hN Q hq
    obtain ⟨y1, y2⟩ := hy y List.mem_cons_self
    refine wp_ok (cut := [3]) ma_4 rfl 10 _ _ _ _ ?_
    show (((nI x) ≤ (nI a) → (Q (some (vi (nI a))) σ ∧ σ.1 = σ.1)) ∧ (¬ (nI x) ≤ (nI a) → (vp_in (nI a) 1920 ∧ (((hI σ 9 0 ((nI a).toNatClampNeg)) = (nI c) → (Q (some (vi (nI a))) σ ∧ σ.1 = σ.1)) ∧ (¬ (hI σ 9 0 ((nI a).toNatClampNeg)) = (nI c) → Sat true d 4 σ.1 Q 3 [some (vr 9 0), some (vi fr), some (vi (nI x)), some (vi (nI c)), some (vi ((nI a) + nI 1))] [] σ)))))
    refine br_le (by omega) (by omega) (fun h => by omega) (fun h => ?_)
    rw [ix (by omega), t1, addN]
    exact ⟨inb (by omega) (by omega), br_eq (by omega) (by omega) (fun q => absurd q y2) (fun _ => k)⟩
theorem e_indexOf9 (d : Nat) {σ : Hp} {c : Nat} (hc : c < 128) {w : List Nat} {a x : Nat} (hy : ∀ y ∈ w, y < 128 ∧ y ≠ c) (ht : Tx (hI σ 9 0) a w) (hx : a + w.length ≤ x) (he : a + w.length < x → hI σ 9 0 (a + w.length) = nI c) (hN : x ≤ 1920) : EI d 4 [vr 9 0, vi (nI a), vi (nI x), vi (nI c)] σ (nI (a + w.length)) σ := by
  refine EI_of mt_4 (Nat.le_of_ble_eq_true rfl) fun Q hq => ?_
  refine wp_ok (cut := [3]) ma_4 rfl 2 _ _ _ _ ?_
  show Sat true d 4 σ.1 Q 3 [some (vr 9 0), some (vi (nI a)), some (vi (nI x)), some (vi (nI c)), some (vi (nI a))] [] σ
  exact s_index9 d σ (nI a) hc w a x hy ht hx he hN Q hq
