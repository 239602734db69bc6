/-! the class's Anchors: spelling -/
def wrT (σ : Hp) (f b : Nat) (w : List Nat) : Hp := arrI σ f 0 (fun k => if b ≤ k ∧ k < b + w.length then nI (w.getD (k - b) 0) else hI σ f 0 k)
theorem wrT_nil (σ : Hp) (f b : Nat) : wrT σ f b [] = σ := by
  unfold wrT
  have e : (fun k => if b ≤ k ∧ k < b + ([] : List Nat).length then nI (([] : List Nat).getD (k - b) 0) else hI σ f 0 k) = hI σ f 0 := by
    funext k
    rw [List.length_nil, if_neg (by omega)]
  rw [e, arrI_self]
theorem wrT_snoc (σ : Hp) (f b : Nat) (w : List Nat) (c : Nat) : setI (wrT σ f b w) f 0 (b + w.length) (nI c) = wrT σ f b (w ++ [c]) := by
  unfold wrT
  rw [arrI_setI]
  congr 1
  funext k
  unfold upd
  rw [List.length_append]
  show (if k = b + w.length then nI c else if b ≤ k ∧ k < b + w.length then _ else _) = if b ≤ k ∧ k < b + (w.length + 1) then nI ((w ++ [c]).getD (k - b) 0) else _
  by_cases h : k = b + w.length
  · rw [if_pos h, if_pos (by omega), List.getD_eq_getElem?_getD, List.getElem?_append_right (by omega), show k - b - w.length = 0 by omega]
    rfl
  · rw [if_neg h]
    by_cases g : b ≤ k ∧ k < b + w.length
    · rw [if_pos g, if_pos (by omega), List.getD_eq_getElem?_getD, List.getD_eq_getElem?_getD, List.getElem?_append_left (by omega)]
    · rw [if_neg g, if_neg (by omega)]
theorem wrT_app (σ : Hp) (f b : Nat) (w v : List Nat) : wrT (wrT σ f b w) f (b + w.length) v = wrT σ f b (w ++ v) := by
  unfold wrT
  rw [arrI_arrI, hI_a]
  congr 1
  funext k
  rw [List.length_append]
  by_cases h : b + w.length ≤ k ∧ k < b + w.length + v.length
  · rw [if_pos h, if_pos (by omega), List.getD_eq_getElem?_getD, List.getD_eq_getElem?_getD, List.getElem?_append_right (by omega), show k - b - w.length = k - (b + w.length) by omega]
  · rw [if_neg h]
    by_cases g : b ≤ k ∧ k < b + w.length
    · rw [if_pos g, if_pos (by omega), List.getD_eq_getElem?_getD, List.getD_eq_getElem?_getD, List.getElem?_append_left (by omega)]
    · rw [if_neg g, if_neg (by omega)]
theorem wrT_tx (σ : Hp) (f b : Nat) (w : List Nat) : Tx (hI (wrT σ f b w) f 0) b w := by
  unfold wrT
  rw [hI_a]
  refine Tx_of fun k hk => ?_
  rw [if_pos (by omega), show b + k - b = k by omega]
theorem wrT_fr (σ : Hp) (f b : Nat) (w : List Nat) : Fr (fun f' p' => f' = f ∧ p' = 0) σ (wrT σ f b w) := (Fr.rfl' _ σ).aI ⟨rfl, rfl⟩ _
theorem addm1 (x : Int32) : x + (-1) = x - nI 1 := by
  rw [Int32.sub_eq_add_neg]
  rfl
theorem div10 {k : Nat} (h : k < 2147483648) : nI k / nI 10 = nI (k / 10) := pk_div h (by decide) (by decide)
theorem rem10 {k : Nat} (h : k < 2147483648) : nI k - nI k / nI 10 * nI 10 = nI (k % 10) := pk_rem h (by decide) (by decide)
theorem e_spellNumber4 (d : Nat) (σ : Hp) {k b : Nat} (hk : k ≤ 99) (hb : b + (txNum k).length ≤ 11) : EI d 6 [vi (nI k), vr 4 0, vi (nI b)] σ (nI (txNum k).length) (wrT σ 4 b (txNum k)) := by
  refine EI_of mt_6 (Nat.le_of_ble_eq_true rfl) fun Q hq => ?_
  refine wp_ok (cut := []) ma_6 rfl 37 _ _ _ _ ?_
  show ((¬ (nI k) = 0 → (vp_in (nI b) 11 ∧ (((nI k) < (nI 10) → (¬ (nI 10) = 0 ∧ (vp_in ((nI b) + nI 1) 11 ∧ (Q (some (vi ((((nI b) + nI 1) + (nI 1)) - (nI b)))) (setI (setI σ 4 0 ((nI b).toNatClampNeg) (vp_nar .char (nI 45))) 4 0 (((nI b) + nI 1).toNatClampNeg) (vp_nar .char ((((nI 48) + ((nI k) - (nI k) / (nI 10) * (nI 10))).toUInt32 % 65536).toInt32))) ∧ σ.1 = σ.1)))) ∧ (¬ (nI k) < (nI 10) → (¬ (nI 10) = 0 ∧ (vp_in ((nI b) + nI 1) 11 ∧ (¬ (nI 10) = 0 ∧ (vp_in (((nI b) + nI 1) + nI 1) 11 ∧ (Q (some (vi (((((nI b) + nI 1) + nI 1) + (nI 1)) - (nI b)))) (setI (setI (setI σ 4 0 ((nI b).toNatClampNeg) (vp_nar .char (nI 45))) 4 0 (((nI b) + nI 1).toNatClampNeg) (vp_nar .char ((((nI 48) + ((nI k) / (nI 10))).toUInt32 % 65536).toInt32))) 4 0 ((((nI b) + nI 1) + nI 1).toNatClampNeg) (vp_nar .char ((((nI 48) + ((nI k) - (nI k) / (nI 10) * (nI 10))).toUInt32 % 65536).toInt32))) ∧ σ.1 = σ.1))))))))) ∧ ((nI k) = 0 → (Q (some (vi (nI 0))) σ ∧ σ.1 = σ.1)))
  unfold txNum at hq hb
  refine br_ne (b := 0) (by omega) (by omega) (fun h => ?_) (fun h => ?_)
  · rw [if_neg h] at hq hb
    rw [addN, nar_c (by omega), ix (by omega)]
    have e0 : setI σ 4 0 b (nI 45) = wrT σ 4 b [45] := by
      have := wrT_snoc σ 4 b [] 45
      rw [wrT_nil] at this
      exact this
    rw [e0]
    refine ⟨inb (by split at hb <;> (rw [List.length_cons] at hb; omega)) (by omega), ?_⟩
    refine br_lt (by omega) (by omega) (fun g => ?_) (fun g => ?_)
    · rw [if_pos g] at hq hb
      have hb : b + 2 ≤ 11 := hb
      rw [addN, subN (by omega), rem10 (by omega), Nat.mod_eq_of_lt g, addN, i2c_n (by omega), nar_c (by omega), ix (by omega)]
      have e1 : setI (wrT σ 4 b [45]) 4 0 (b + 1) (nI (48 + k)) = wrT σ 4 b [45, 48 + k] := wrT_snoc σ 4 b [45] (48 + k)
      rw [e1, show b + 1 + 1 - b = 2 by omega]
      exact ⟨by decide, inb (by omega) (by omega), hq, rfl⟩
    · rw [if_neg (by omega)] at hq hb
      have hb : b + 3 ≤ 11 := hb
      rw [rem10 (k := k) (by omega), div10 (k := k) (by omega)]
      simp only [addN]
      rw [subN (a := b + 1 + 1 + 1) (b := b) (by omega), i2c_n (n := 48 + k / 10) (by omega), i2c_n (n := 48 + k % 10) (by omega), nar_c (n := 48 + k / 10) (by omega), nar_c (n := 48 + k % 10) (by omega), ix (n := b + 1) (by omega), ix (n := b + 1 + 1) (by omega)]
      have e1 : setI (wrT σ 4 b [45]) 4 0 (b + 1) (nI (48 + k / 10)) = wrT σ 4 b [45, 48 + k / 10] := wrT_snoc σ 4 b [45] (48 + k / 10)
      have e2 : setI (wrT σ 4 b [45, 48 + k / 10]) 4 0 (b + 1 + 1) (nI (48 + k % 10)) = wrT σ 4 b [45, 48 + k / 10, 48 + k % 10] := wrT_snoc σ 4 b [45, 48 + k / 10] (48 + k % 10)
      rw [e1, e2, show b + 1 + 1 + 1 - b = 3 by omega]
      exact ⟨by decide, inb (by omega) (by omega), by decide, inb (by omega) (by omega), hq, trivial⟩
  · rw [if_pos h, wrT_nil] at hq
    exact ⟨hq, rfl⟩
theorem s_spell4 (d : Nat) (σ : Hp) {kk n b : Nat} (hk : kk ≤ 99) (hn : n < 36028797018963968) (hm : n % 128 = kk) {w : List Nat} (hg : gRest w) (h8 : w.length ≤ 8) (hb : b + (w ++ txNum kk).length ≤ 11) : ∀ (u v : List Nat), w = v ++ u → ∀ Q : Option AV → Hp → Prop, Q (some (vi (nI (w ++ txNum kk).length))) (wrT σ 4 b (w ++ txNum kk)) → Sat true (d + 1) 5 σ.1 Q 44 [some (vl (lN n)), none, some (vr 4 0), some (vi (nI b)), some (vl (lN (nmC w))), none, none, some (vi (nI (b + v.length))), some (vi (nI u.length - nI 1)), none] [] (wrT σ 4 b v) := by
  rw [List.length_append] at hb
  intro u
  induction u with
  | nil =>
    intro v hv Q hq
    rw [List.append_nil] at hv
    subst hv
    refine wp_ok (cut := [44]) ma_5 rfl 27 _ _ _ _ ?_
    show (((nI ([] : List Nat).length - nI 1) < 0 → CalI true d 6 [vi (((lN n) &&& (lN 127)).toInt32), vr 4 0, vi (nI (b + w.length))] (wrT σ 4 b w) σ.1 (fun x2 s1 => (Q (some (vi (((nI (b + w.length)) - (nI b)) + x2))) s1 ∧ s1.1 = σ.1))) ∧ (¬ (nI ([] : List Nat).length - nI 1) < 0 → (((nI 26) < (((((lN (nmC w)).toUInt64 >>> (((nI 6) * (nI ([] : List Nat).length - nI 1)).toInt64.toUInt64 &&& Int64.toUInt64 63)).toInt64) &&& (lN 63)).toInt32) → (vp_in (nI (b + w.length)) 11 ∧ Sat true (d + 1) 5 σ.1 Q 44 [some (vl (lN n)), none, some (vr 4 0), some (vi (nI b)), some (vl (lN (nmC w))), none, none, some (vi ((nI (b + w.length)) + nI 1)), some (vi ((nI ([] : List Nat).length - nI 1) + (-1))), some (vi (((((lN (nmC w)).toUInt64 >>> (((nI 6) * (nI ([] : List Nat).length - nI 1)).toInt64.toUInt64 &&& Int64.toUInt64 63)).toInt64) &&& (lN 63)).toInt32))] [] (setI (wrT σ 4 b w) 4 0 ((nI (b + w.length)).toNatClampNeg) (vp_nar .char (((((nI 48) + (((((lN (nmC w)).toUInt64 >>> (((nI 6) * (nI ([] : List Nat).length - nI 1)).toInt64.toUInt64 &&& Int64.toUInt64 63)).toInt64) &&& (lN 63)).toInt32)) - (nI 27)).toUInt32 % 65536).toInt32))))) ∧ (¬ (nI 26) < (((((lN (nmC w)).toUInt64 >>> (((nI 6) * (nI ([] : List Nat).length - nI 1)).toInt64.toUInt64 &&& Int64.toUInt64 63)).toInt64) &&& (lN 63)).toInt32) → (vp_in (nI (b + w.length)) 11 ∧ Sat true (d + 1) 5 σ.1 Q 44 [some (vl (lN n)), none, some (vr 4 0), some (vi (nI b)), some (vl (lN (nmC w))), none, none, some (vi ((nI (b + w.length)) + nI 1)), some (vi ((nI ([] : List Nat).length - nI 1) + (-1))), some (vi (((((lN (nmC w)).toUInt64 >>> (((nI 6) * (nI ([] : List Nat).length - nI 1)).toInt64.toUInt64 &&& Int64.toUInt64 63)).toInt64) &&& (lN 63)).toInt32))] [] (setI (wrT σ 4 b w) 4 0 ((nI (b + w.length)).toNatClampNeg) (vp_nar .char (((((nI 97) + (((((lN (nmC w)).toUInt64 >>> (((nI 6) * (nI ([] : List Nat).length - nI 1)).toInt64.toUInt64 &&& Int64.toUInt64 63)).toInt64) &&& (lN 63)).toInt32)) - (nI 1)).toUInt32 % 65536).toInt32))))))))
    refine ⟨fun _ => ?_, fun h => absurd (by decide : nI ([] : List Nat).length - nI 1 < 0) h⟩
    rw [show lN 127 = lN (2 ^ 7 - 1) from rfl, fb_maskL, show n % 2 ^ 7 = kk from hm, l2i_n (by omega), subN (by omega), show b + w.length - b = w.length by omega]
    refine cal_i (e_spellNumber4 d (wrT σ 4 b w) hk (by omega)) rfl ?_
    rw [addN, wrT_app]
    rw [List.length_append] at hq
    exact ⟨hq, rfl⟩
  | cons c u ih =>
    intro v hv Q hq
    have e : w = (v ++ [c]) ++ u := by rw [hv, List.append_assoc]; rfl
    have kq := ih (v ++ [c]) e Q hq
    have hc : isLt c ∨ isDg c := hg c (by rw [hv]; exact List.mem_append.mpr (Or.inr List.mem_cons_self))
    have hs := sy_b hc
    have hlen : w.length = v.length + (u.length + 1) := by rw [hv, List.length_append, List.length_cons]
    have hlt := nmR_lt _ (gRest_rev hg)
    have h2 : nmC w < 64 ^ 8 := Nat.lt_of_lt_of_le hlt (Nat.pow_le_pow_right (by decide) (by rw [List.length_reverse]; exact h8))
    have hdig : nmC w / 2 ^ (6 * u.length) % 64 = sy c := by
      rw [pw6]
      unfold nmC
      rw [nmR_div _ _ (gRest_rev hg), hv, List.reverse_append, List.reverse_cons, List.append_assoc, List.drop_append_of_le_length (by rw [List.length_reverse]; exact Nat.le_refl _), List.drop_eq_nil_of_le (by rw [List.length_reverse]; exact Nat.le_refl _)]
      show (nmR v.reverse * 64 + sy c) % 64 = sy c
      omega
    refine wp_ok (cut := [44]) ma_5 rfl 27 _ _ _ _ ?_
    show (((nI (c :: u).length - nI 1) < 0 → CalI true d 6 [vi (((lN n) &&& (lN 127)).toInt32), vr 4 0, vi (nI (b + v.length))] (wrT σ 4 b v) σ.1 (fun x2 s1 => (Q (some (vi (((nI (b + v.length)) - (nI b)) + x2))) s1 ∧ s1.1 = σ.1))) ∧ (¬ (nI (c :: u).length - nI 1) < 0 → (((nI 26) < (((((lN (nmC w)).toUInt64 >>> (((nI 6) * (nI (c :: u).length - nI 1)).toInt64.toUInt64 &&& Int64.toUInt64 63)).toInt64) &&& (lN 63)).toInt32) → (vp_in (nI (b + v.length)) 11 ∧ Sat true (d + 1) 5 σ.1 Q 44 [some (vl (lN n)), none, some (vr 4 0), some (vi (nI b)), some (vl (lN (nmC w))), none, none, some (vi ((nI (b + v.length)) + nI 1)), some (vi ((nI (c :: u).length - nI 1) + (-1))), some (vi (((((lN (nmC w)).toUInt64 >>> (((nI 6) * (nI (c :: u).length - nI 1)).toInt64.toUInt64 &&& Int64.toUInt64 63)).toInt64) &&& (lN 63)).toInt32))] [] (setI (wrT σ 4 b v) 4 0 ((nI (b + v.length)).toNatClampNeg) (vp_nar .char (((((nI 48) + (((((lN (nmC w)).toUInt64 >>> (((nI 6) * (nI (c :: u).length - nI 1)).toInt64.toUInt64 &&& Int64.toUInt64 63)).toInt64) &&& (lN 63)).toInt32)) - (nI 27)).toUInt32 % 65536).toInt32))))) ∧ (¬ (nI 26) < (((((lN (nmC w)).toUInt64 >>> (((nI 6) * (nI (c :: u).length - nI 1)).toInt64.toUInt64 &&& Int64.toUInt64 63)).toInt64) &&& (lN 63)).toInt32) → (vp_in (nI (b + v.length)) 11 ∧ Sat true (d + 1) 5 σ.1 Q 44 [some (vl (lN n)), none, some (vr 4 0), some (vi (nI b)), some (vl (lN (nmC w))), none, none, some (vi ((nI (b + v.length)) + nI 1)), some (vi ((nI (c :: u).length - nI 1) + (-1))), some (vi (((((lN (nmC w)).toUInt64 >>> (((nI 6) * (nI (c :: u).length - nI 1)).toInt64.toUInt64 &&& Int64.toUInt64 63)).toInt64) &&& (lN 63)).toInt32))] [] (setI (wrT σ 4 b v) 4 0 ((nI (b + v.length)).toNatClampNeg) (vp_nar .char (((((nI 97) + (((((lN (nmC w)).toUInt64 >>> (((nI 6) * (nI (c :: u).length - nI 1)).toInt64.toUInt64 &&& Int64.toUInt64 63)).toInt64) &&& (lN 63)).toInt32)) - (nI 1)).toUInt32 % 65536).toInt32))))))))
    have el : nI (c :: u).length - nI 1 = nI u.length := by
      rw [List.length_cons, subN (by omega)]
      rfl
    rw [el, mulN, wb_shr (by omega) (by omega), show lN 63 = lN (2 ^ 6 - 1) from rfl, fb_maskL, show nmC w / 2 ^ (6 * u.length) % 2 ^ 6 = sy c from hdig, l2i_n (by omega), addN, addN, addN, addm1, ix (by omega)]
    refine ⟨fun h => ?_, fun _ => ?_⟩
    · exact absurd ((ltN (a := u.length) (b := 0) (by omega) (by omega)).mp h) (by omega)
    have hin : vp_in (nI (b + v.length)) 11 := inb (by omega) (by omega)
    have hst : ∀ x, x = c → Sat true (d + 1) 5 σ.1 Q 44 [some (vl (lN n)), none, some (vr 4 0), some (vi (nI b)), some (vl (lN (nmC w))), none, none, some (vi (nI (b + v.length + 1))), some (vi (nI u.length - nI 1)), some (vi (nI (sy c)))] [] (setI (wrT σ 4 b v) 4 0 (b + v.length) (vp_nar .char ((nI x).toUInt32 % 65536).toInt32)) := by
      intro x hx
      have := ld_s hc
      rw [hx, i2c_n (by omega), nar_c (by omega), wrT_snoc]
      have ev : b + (v ++ [c]).length = b + v.length + 1 := by rw [List.length_append]; rfl
      rw [ev] at kq
      exact Sat_no 9 kq
    refine br_lt (by omega) (by omega) (fun h => ⟨hin, ?_⟩) (fun h => ⟨hin, ?_⟩)
    · rw [subN (a := 48 + sy c) (b := 27) (by omega)]
      refine hst _ ?_
      unfold sy at *
      rcases hc with ⟨q1, q2⟩ | ⟨q1, q2⟩
      · rw [if_pos q1] at *; omega
      · rw [if_neg (by omega)] at *; omega
    · rw [subN (a := 97 + sy c) (b := 1) (by omega)]
      refine hst _ ?_
      unfold sy at *
      rcases hc with ⟨q1, q2⟩ | ⟨q1, q2⟩
      · rw [if_pos q1] at *; omega
      · rw [if_neg (by omega)] at *; omega
theorem s_letters4 (d : Nat) (σ : Hp) {kk n b : Nat} (hk : kk ≤ 99) (hn : n < 36028797018963968) (hm : n % 128 = kk) {w : List Nat} (hg : gRest w) (h8 : w.length ≤ 8) (hb : b + (w ++ txNum kk).length ≤ 11) : ∀ (m i : Nat), i + m = w.length → ∀ Q : Option AV → Hp → Prop, Q (some (vi (nI (w ++ txNum kk).length))) (wrT σ 4 b (w ++ txNum kk)) → Sat true (d + 1) 5 σ.1 Q 9 [some (vl (lN n)), none, some (vr 4 0), some (vi (nI b)), some (vl (lN (nmC w))), none, some (vi (nI i)), none, none, none] [] σ := by
  have hlt := nmR_lt _ (gRest_rev hg)
  have h2 : nmC w < 64 ^ 8 := Nat.lt_of_lt_of_le hlt (Nat.pow_le_pow_right (by decide) (by rw [List.length_reverse]; exact h8))
  have hsh : ∀ i, i < 8 → (lg_cmp ((lN (nmC w)).toUInt64 >>> ((nI (6 * i)).toInt64.toUInt64 &&& Int64.toUInt64 63)).toInt64 (lN 0) = 0 ↔ w.length ≤ i) := by
    intro i hi
    rw [lg_cmp_eq, wb_shr (by omega) (by omega), fb_lN_inj (Nat.lt_of_le_of_lt (Nat.div_le_self _ _) (by omega)) (by omega), pw6]
    unfold nmC
    rw [nmR_div _ _ (gRest_rev hg)]
    constructor
    · intro h
      have : w.reverse.drop i = [] := nmR_inj _ [] (fun x hx => gRest_rev hg x (List.mem_of_mem_drop hx)) (fun x hx => by cases hx) h
      have := List.drop_eq_nil_iff.mp this
      rw [List.length_reverse] at this
      exact this
    · intro h
      rw [List.drop_eq_nil_of_le (by rw [List.length_reverse]; exact h)]
      rfl
  intro m
  induction m with
  | zero =>
    intro i hi Q hq
    have hi : i = w.length := hi
    subst hi
    have kq := s_spell4 d σ hk hn hm hg h8 hb w [] rfl Q hq
    rw [wrT_nil] at kq
    have kq := Sat_no (ls := [some (vl (lN n)), none, some (vr 4 0), some (vi (nI b)), some (vl (lN (nmC w))), none, some (vi (nI w.length)), some (vi (nI b)), some (vi (nI w.length - nI 1)), none]) 6 kq
    refine wp_ok (cut := [9, 44]) ma_5 rfl 17 _ _ _ _ ?_
    show (((nI 8) ≤ (nI w.length) → Sat true (d + 1) 5 σ.1 Q 44 [some (vl (lN n)), none, some (vr 4 0), some (vi (nI b)), some (vl (lN (nmC w))), none, some (vi (nI w.length)), some (vi (nI b)), some (vi ((nI w.length) - (nI 1))), none] [] σ) ∧ (¬ (nI 8) ≤ (nI w.length) → (((lg_cmp (((lN (nmC w)).toUInt64 >>> (((nI 6) * (nI w.length)).toInt64.toUInt64 &&& Int64.toUInt64 63)).toInt64) (lN 0)) = 0 → Sat true (d + 1) 5 σ.1 Q 44 [some (vl (lN n)), none, some (vr 4 0), some (vi (nI b)), some (vl (lN (nmC w))), none, some (vi (nI w.length)), some (vi (nI b)), some (vi ((nI w.length) - (nI 1))), none] [] σ) ∧ (¬ (lg_cmp (((lN (nmC w)).toUInt64 >>> (((nI 6) * (nI w.length)).toInt64.toUInt64 &&& Int64.toUInt64 63)).toInt64) (lN 0)) = 0 → Sat true (d + 1) 5 σ.1 Q 9 [some (vl (lN n)), none, some (vr 4 0), some (vi (nI b)), some (vl (lN (nmC w))), none, some (vi ((nI w.length) + nI 1)), none, none, none] [] σ))))
    refine br_le (by omega) (by omega) (fun _ => kq) (fun h => ?_)
    rw [mulN]
    exact ⟨fun _ => kq, fun q => absurd ((hsh _ h).mpr (Nat.le_refl _)) q⟩
  | succ m ih =>
    intro i hi Q hq
    have kq := ih (i + 1) (by omega) Q hq
    refine wp_ok (cut := [9, 44]) ma_5 rfl 17 _ _ _ _ ?_
    show (((nI 8) ≤ (nI i) → Sat true (d + 1) 5 σ.1 Q 44 [some (vl (lN n)), none, some (vr 4 0), some (vi (nI b)), some (vl (lN (nmC w))), none, some (vi (nI i)), some (vi (nI b)), some (vi ((nI i) - (nI 1))), none] [] σ) ∧ (¬ (nI 8) ≤ (nI i) → (((lg_cmp (((lN (nmC w)).toUInt64 >>> (((nI 6) * (nI i)).toInt64.toUInt64 &&& Int64.toUInt64 63)).toInt64) (lN 0)) = 0 → Sat true (d + 1) 5 σ.1 Q 44 [some (vl (lN n)), none, some (vr 4 0), some (vi (nI b)), some (vl (lN (nmC w))), none, some (vi (nI i)), some (vi (nI b)), some (vi ((nI i) - (nI 1))), none] [] σ) ∧ (¬ (lg_cmp (((lN (nmC w)).toUInt64 >>> (((nI 6) * (nI i)).toInt64.toUInt64 &&& Int64.toUInt64 63)).toInt64) (lN 0)) = 0 → Sat true (d + 1) 5 σ.1 Q 9 [some (vl (lN n)), none, some (vr 4 0), some (vi (nI b)), some (vl (lN (nmC w))), none, some (vi ((nI i) + nI 1)), none, none, none] [] σ))))
    refine br_le (by omega) (by omega) (fun h => by omega) (fun h => ?_)
    rw [mulN, addN]
    exact ⟨fun q => absurd ((hsh _ h).mp q) (by omega), fun _ => kq⟩
theorem e_spell4 (d : Nat) (σ : Hp) {o : Option Anc} (ho : gAO o) {b : Nat} (hb : b + (txO o).length ≤ 11) : EI (d + 1) 5 [vl (lN (anO o)), vr 4 0, vi (nI b)] σ (nI (txO o).length) (wrT σ 4 b (txO o)) := by
  refine EI_of mt_5 (Nat.le_of_ble_eq_true rfl) fun Q hq => ?_
  have hlt := anO_b ho
  refine wp_ok (cut := [9]) ma_5 rfl 5 _ _ _ _ ?_
  show CalL true d 2 [vl (lN (anO o))] σ σ.1 (fun x2 s1 => Sat true (d + 1) 5 σ.1 Q 9 [some (vl (lN (anO o))), none, some (vr 4 0), some (vi (nI b)), some (vl x2), none, some (vi (nI 0)), none, none, none] [] s1)
  refine cal_l (e_nameOf d σ hlt) rfl ?_
  cases o with
  | none => exact s_letters4 d σ (kk := 0) (n := 0) (by omega) (by omega) rfl (w := []) (fun x hx => by cases hx) (by decide) hb 0 0 rfl Q hq
  | some x =>
    obtain ⟨w, k⟩ := x
    obtain ⟨g1, g2⟩ := ho _ rfl
    obtain ⟨n1, n2, n3⟩ := gName_r g1
    dsimp only at g2 n1 n2 n3
    have e : anO (some (w, k)) / 128 = nmC w := by show (nmC w * 128 + k) / 128 = nmC w; omega
    rw [e]
    exact s_letters4 d σ (kk := k) (n := anO (some (w, k))) g2 hlt (by show (nmC w * 128 + k) % 128 = k; omega) n1 n3 hb w.length 0 (by omega) Q hq
theorem e_spellNumber20 (d : Nat) (σ : Hp) {k b : Nat} (hk : k ≤ 99) (hb : b + (txNum k).length ≤ 13) : EI d 6 [vi (nI k), vr 20 0, vi (nI b)] σ (nI (txNum k).length) (wrT σ 20 b (txNum k)) := by
  refine EI_of mt_6 (Nat.le_of_ble_eq_true rfl) fun Q hq => ?_
  refine wp_ok (cut := []) ma_6 rfl 37 _ _ _ _ ?_
  show ((¬ (nI k) = 0 → (vp_in (nI b) 13 ∧ (((nI k) < (nI 10) → (¬ (nI 10) = 0 ∧ (vp_in ((nI b) + nI 1) 13 ∧ (Q (some (vi ((((nI b) + nI 1) + (nI 1)) - (nI b)))) (setI (setI σ 20 0 ((nI b).toNatClampNeg) (vp_nar .char (nI 45))) 20 0 (((nI b) + nI 1).toNatClampNeg) (vp_nar .char ((((nI 48) + ((nI k) - (nI k) / (nI 10) * (nI 10))).toUInt32 % 65536).toInt32))) ∧ σ.1 = σ.1)))) ∧ (¬ (nI k) < (nI 10) → (¬ (nI 10) = 0 ∧ (vp_in ((nI b) + nI 1) 13 ∧ (¬ (nI 10) = 0 ∧ (vp_in (((nI b) + nI 1) + nI 1) 13 ∧ (Q (some (vi (((((nI b) + nI 1) + nI 1) + (nI 1)) - (nI b)))) (setI (setI (setI σ 20 0 ((nI b).toNatClampNeg) (vp_nar .char (nI 45))) 20 0 (((nI b) + nI 1).toNatClampNeg) (vp_nar .char ((((nI 48) + ((nI k) / (nI 10))).toUInt32 % 65536).toInt32))) 20 0 ((((nI b) + nI 1) + nI 1).toNatClampNeg) (vp_nar .char ((((nI 48) + ((nI k) - (nI k) / (nI 10) * (nI 10))).toUInt32 % 65536).toInt32))) ∧ σ.1 = σ.1))))))))) ∧ ((nI k) = 0 → (Q (some (vi (nI 0))) σ ∧ σ.1 = σ.1)))
  unfold txNum at hq hb
  refine br_ne (b := 0) (by omega) (by omega) (fun h => ?_) (fun h => ?_)
  · rw [if_neg h] at hq hb
    rw [addN, nar_c (by omega), ix (by omega)]
    have e0 : setI σ 20 0 b (nI 45) = wrT σ 20 b [45] := by
      have := wrT_snoc σ 20 b [] 45
      rw [wrT_nil] at this
      exact this
    rw [e0]
    refine ⟨inb (by split at hb <;> (rw [List.length_cons] at hb; omega)) (by omega), ?_⟩
    refine br_lt (by omega) (by omega) (fun g => ?_) (fun g => ?_)
    · rw [if_pos g] at hq hb
      have hb : b + 2 ≤ 13 := hb
      rw [addN, subN (by omega), rem10 (by omega), Nat.mod_eq_of_lt g, addN, i2c_n (by omega), nar_c (by omega), ix (by omega)]
      have e1 : setI (wrT σ 20 b [45]) 20 0 (b + 1) (nI (48 + k)) = wrT σ 20 b [45, 48 + k] := wrT_snoc σ 20 b [45] (48 + k)
      rw [e1, show b + 1 + 1 - b = 2 by omega]
      exact ⟨by decide, inb (by omega) (by omega), hq, rfl⟩
    · rw [if_neg (by omega)] at hq hb
      have hb : b + 3 ≤ 13 := hb
      rw [rem10 (k := k) (by omega), div10 (k := k) (by omega)]
      simp only [addN]
      rw [subN (a := b + 1 + 1 + 1) (b := b) (by omega), i2c_n (n := 48 + k / 10) (by omega), i2c_n (n := 48 + k % 10) (by omega), nar_c (n := 48 + k / 10) (by omega), nar_c (n := 48 + k % 10) (by omega), ix (n := b + 1) (by omega), ix (n := b + 1 + 1) (by omega)]
      have e1 : setI (wrT σ 20 b [45]) 20 0 (b + 1) (nI (48 + k / 10)) = wrT σ 20 b [45, 48 + k / 10] := wrT_snoc σ 20 b [45] (48 + k / 10)
      have e2 : setI (wrT σ 20 b [45, 48 + k / 10]) 20 0 (b + 1 + 1) (nI (48 + k % 10)) = wrT σ 20 b [45, 48 + k / 10, 48 + k % 10] := wrT_snoc σ 20 b [45, 48 + k / 10] (48 + k % 10)
      rw [e1, e2, show b + 1 + 1 + 1 - b = 3 by omega]
      exact ⟨by decide, inb (by omega) (by omega), by decide, inb (by omega) (by omega), hq, trivial⟩
  · rw [if_pos h, wrT_nil] at hq
    exact ⟨hq, rfl⟩
theorem s_spell20 (d : Nat) (σ : Hp) {kk n b : Nat} (hk : kk ≤ 99) (hn : n < 36028797018963968) (hm : n % 128 = kk) {w : List Nat} (hg : gRest w) (h8 : w.length ≤ 8) (hb : b + (w ++ txNum kk).length ≤ 13) : ∀ (u v : List Nat), w = v ++ u → ∀ Q : Option AV → Hp → Prop, Q (some (vi (nI (w ++ txNum kk).length))) (wrT σ 20 b (w ++ txNum kk)) → Sat true (d + 1) 5 σ.1 Q 44 [some (vl (lN n)), none, some (vr 20 0), some (vi (nI b)), some (vl (lN (nmC w))), none, none, some (vi (nI (b + v.length))), some (vi (nI u.length - nI 1)), none] [] (wrT σ 20 b v) := by
  rw [List.length_append] at hb
  intro u
  induction u with
  | nil =>
    intro v hv Q hq
    rw [List.append_nil] at hv
    subst hv
    refine wp_ok (cut := [44]) ma_5 rfl 27 _ _ _ _ ?_
    show (((nI ([] : List Nat).length - nI 1) < 0 → CalI true d 6 [vi (((lN n) &&& (lN 127)).toInt32), vr 20 0, vi (nI (b + w.length))] (wrT σ 20 b w) σ.1 (fun x2 s1 => (Q (some (vi (((nI (b + w.length)) - (nI b)) + x2))) s1 ∧ s1.1 = σ.1))) ∧ (¬ (nI ([] : List Nat).length - nI 1) < 0 → (((nI 26) < (((((lN (nmC w)).toUInt64 >>> (((nI 6) * (nI ([] : List Nat).length - nI 1)).toInt64.toUInt64 &&& Int64.toUInt64 63)).toInt64) &&& (lN 63)).toInt32) → (vp_in (nI (b + w.length)) 13 ∧ Sat true (d + 1) 5 σ.1 Q 44 [some (vl (lN n)), none, some (vr 20 0), some (vi (nI b)), some (vl (lN (nmC w))), none, none, some (vi ((nI (b + w.length)) + nI 1)), some (vi ((nI ([] : List Nat).length - nI 1) + (-1))), some (vi (((((lN (nmC w)).toUInt64 >>> (((nI 6) * (nI ([] : List Nat).length - nI 1)).toInt64.toUInt64 &&& Int64.toUInt64 63)).toInt64) &&& (lN 63)).toInt32))] [] (setI (wrT σ 20 b w) 20 0 ((nI (b + w.length)).toNatClampNeg) (vp_nar .char (((((nI 48) + (((((lN (nmC w)).toUInt64 >>> (((nI 6) * (nI ([] : List Nat).length - nI 1)).toInt64.toUInt64 &&& Int64.toUInt64 63)).toInt64) &&& (lN 63)).toInt32)) - (nI 27)).toUInt32 % 65536).toInt32))))) ∧ (¬ (nI 26) < (((((lN (nmC w)).toUInt64 >>> (((nI 6) * (nI ([] : List Nat).length - nI 1)).toInt64.toUInt64 &&& Int64.toUInt64 63)).toInt64) &&& (lN 63)).toInt32) → (vp_in (nI (b + w.length)) 13 ∧ Sat true (d + 1) 5 σ.1 Q 44 [some (vl (lN n)), none, some (vr 20 0), some (vi (nI b)), some (vl (lN (nmC w))), none, none, some (vi ((nI (b + w.length)) + nI 1)), some (vi ((nI ([] : List Nat).length - nI 1) + (-1))), some (vi (((((lN (nmC w)).toUInt64 >>> (((nI 6) * (nI ([] : List Nat).length - nI 1)).toInt64.toUInt64 &&& Int64.toUInt64 63)).toInt64) &&& (lN 63)).toInt32))] [] (setI (wrT σ 20 b w) 20 0 ((nI (b + w.length)).toNatClampNeg) (vp_nar .char (((((nI 97) + (((((lN (nmC w)).toUInt64 >>> (((nI 6) * (nI ([] : List Nat).length - nI 1)).toInt64.toUInt64 &&& Int64.toUInt64 63)).toInt64) &&& (lN 63)).toInt32)) - (nI 1)).toUInt32 % 65536).toInt32))))))))
    refine ⟨fun _ => ?_, fun h => absurd (by decide : nI ([] : List Nat).length - nI 1 < 0) h⟩
    rw [show lN 127 = lN (2 ^ 7 - 1) from rfl, fb_maskL, show n % 2 ^ 7 = kk from hm, l2i_n (by omega), subN (by omega), show b + w.length - b = w.length by omega]
    refine cal_i (e_spellNumber20 d (wrT σ 20 b w) hk (by omega)) rfl ?_
    rw [addN, wrT_app]
    rw [List.length_append] at hq
    exact ⟨hq, rfl⟩
  | cons c u ih =>
    intro v hv Q hq
    have e : w = (v ++ [c]) ++ u := by rw [hv, List.append_assoc]; rfl
    have kq := ih (v ++ [c]) e Q hq
    have hc : isLt c ∨ isDg c := hg c (by rw [hv]; exact List.mem_append.mpr (Or.inr List.mem_cons_self))
    have hs := sy_b hc
    have hlen : w.length = v.length + (u.length + 1) := by rw [hv, List.length_append, List.length_cons]
    have hlt := nmR_lt _ (gRest_rev hg)
    have h2 : nmC w < 64 ^ 8 := Nat.lt_of_lt_of_le hlt (Nat.pow_le_pow_right (by decide) (by rw [List.length_reverse]; exact h8))
    have hdig : nmC w / 2 ^ (6 * u.length) % 64 = sy c := by
      rw [pw6]
      unfold nmC
      rw [nmR_div _ _ (gRest_rev hg), hv, List.reverse_append, List.reverse_cons, List.append_assoc, List.drop_append_of_le_length (by rw [List.length_reverse]; exact Nat.le_refl _), List.drop_eq_nil_of_le (by rw [List.length_reverse]; exact Nat.le_refl _)]
      show (nmR v.reverse * 64 + sy c) % 64 = sy c
      omega
    refine wp_ok (cut := [44]) ma_5 rfl 27 _ _ _ _ ?_
    show (((nI (c :: u).length - nI 1) < 0 → CalI true d 6 [vi (((lN n) &&& (lN 127)).toInt32), vr 20 0, vi (nI (b + v.length))] (wrT σ 20 b v) σ.1 (fun x2 s1 => (Q (some (vi (((nI (b + v.length)) - (nI b)) + x2))) s1 ∧ s1.1 = σ.1))) ∧ (¬ (nI (c :: u).length - nI 1) < 0 → (((nI 26) < (((((lN (nmC w)).toUInt64 >>> (((nI 6) * (nI (c :: u).length - nI 1)).toInt64.toUInt64 &&& Int64.toUInt64 63)).toInt64) &&& (lN 63)).toInt32) → (vp_in (nI (b + v.length)) 13 ∧ Sat true (d + 1) 5 σ.1 Q 44 [some (vl (lN n)), none, some (vr 20 0), some (vi (nI b)), some (vl (lN (nmC w))), none, none, some (vi ((nI (b + v.length)) + nI 1)), some (vi ((nI (c :: u).length - nI 1) + (-1))), some (vi (((((lN (nmC w)).toUInt64 >>> (((nI 6) * (nI (c :: u).length - nI 1)).toInt64.toUInt64 &&& Int64.toUInt64 63)).toInt64) &&& (lN 63)).toInt32))] [] (setI (wrT σ 20 b v) 20 0 ((nI (b + v.length)).toNatClampNeg) (vp_nar .char (((((nI 48) + (((((lN (nmC w)).toUInt64 >>> (((nI 6) * (nI (c :: u).length - nI 1)).toInt64.toUInt64 &&& Int64.toUInt64 63)).toInt64) &&& (lN 63)).toInt32)) - (nI 27)).toUInt32 % 65536).toInt32))))) ∧ (¬ (nI 26) < (((((lN (nmC w)).toUInt64 >>> (((nI 6) * (nI (c :: u).length - nI 1)).toInt64.toUInt64 &&& Int64.toUInt64 63)).toInt64) &&& (lN 63)).toInt32) → (vp_in (nI (b + v.length)) 13 ∧ Sat true (d + 1) 5 σ.1 Q 44 [some (vl (lN n)), none, some (vr 20 0), some (vi (nI b)), some (vl (lN (nmC w))), none, none, some (vi ((nI (b + v.length)) + nI 1)), some (vi ((nI (c :: u).length - nI 1) + (-1))), some (vi (((((lN (nmC w)).toUInt64 >>> (((nI 6) * (nI (c :: u).length - nI 1)).toInt64.toUInt64 &&& Int64.toUInt64 63)).toInt64) &&& (lN 63)).toInt32))] [] (setI (wrT σ 20 b v) 20 0 ((nI (b + v.length)).toNatClampNeg) (vp_nar .char (((((nI 97) + (((((lN (nmC w)).toUInt64 >>> (((nI 6) * (nI (c :: u).length - nI 1)).toInt64.toUInt64 &&& Int64.toUInt64 63)).toInt64) &&& (lN 63)).toInt32)) - (nI 1)).toUInt32 % 65536).toInt32))))))))
    have el : nI (c :: u).length - nI 1 = nI u.length := by
      rw [List.length_cons, subN (by omega)]
      rfl
    rw [el, mulN, wb_shr (by omega) (by omega), show lN 63 = lN (2 ^ 6 - 1) from rfl, fb_maskL, show nmC w / 2 ^ (6 * u.length) % 2 ^ 6 = sy c from hdig, l2i_n (by omega), addN, addN, addN, addm1, ix (by omega)]
    refine ⟨fun h => ?_, fun _ => ?_⟩
    · exact absurd ((ltN (a := u.length) (b := 0) (by omega) (by omega)).mp h) (by omega)
    have hin : vp_in (nI (b + v.length)) 13 := inb (by omega) (by omega)
    have hst : ∀ x, x = c → Sat true (d + 1) 5 σ.1 Q 44 [some (vl (lN n)), none, some (vr 20 0), some (vi (nI b)), some (vl (lN (nmC w))), none, none, some (vi (nI (b + v.length + 1))), some (vi (nI u.length - nI 1)), some (vi (nI (sy c)))] [] (setI (wrT σ 20 b v) 20 0 (b + v.length) (vp_nar .char ((nI x).toUInt32 % 65536).toInt32)) := by
      intro x hx
      have := ld_s hc
      rw [hx, i2c_n (by omega), nar_c (by omega), wrT_snoc]
      have ev : b + (v ++ [c]).length = b + v.length + 1 := by rw [List.length_append]; rfl
      rw [ev] at kq
      exact Sat_no 9 kq
    refine br_lt (by omega) (by omega) (fun h => ⟨hin, ?_⟩) (fun h => ⟨hin, ?_⟩)
    · rw [subN (a := 48 + sy c) (b := 27) (by omega)]
      refine hst _ ?_
      unfold sy at *
      rcases hc with ⟨q1, q2⟩ | ⟨q1, q2⟩
      · rw [if_pos q1] at *; omega
      · rw [if_neg (by omega)] at *; omega
    · rw [subN (a := 97 + sy c) (b := 1) (by omega)]
      refine hst _ ?_
      unfold sy at *
      rcases hc with ⟨q1, q2⟩ | ⟨q1, q2⟩
      · rw [if_pos q1] at *; omega
      · rw [if_neg (by omega)] at *; omega
theorem s_letters20 (d : Nat) (σ : Hp) {kk n b : Nat} (hk : kk ≤ 99) (hn : n < 36028797018963968) (hm : n % 128 = kk) {w : List Nat} (hg : gRest w) (h8 : w.length ≤ 8) (hb : b + (w ++ txNum kk).length ≤ 13) : ∀ (m i : Nat), i + m = w.length → ∀ Q : Option AV → Hp → Prop, Q (some (vi (nI (w ++ txNum kk).length))) (wrT σ 20 b (w ++ txNum kk)) → Sat true (d + 1) 5 σ.1 Q 9 [some (vl (lN n)), none, some (vr 20 0), some (vi (nI b)), some (vl (lN (nmC w))), none, some (vi (nI i)), none, none, none] [] σ := by
  have hlt := nmR_lt _ (gRest_rev hg)
  have h2 : nmC w < 64 ^ 8 := Nat.lt_of_lt_of_le hlt (Nat.pow_le_pow_right (by decide) (by rw [List.length_reverse]; exact h8))
  have hsh : ∀ i, i < 8 → (lg_cmp ((lN (nmC w)).toUInt64 >>> ((nI (6 * i)).toInt64.toUInt64 &&& Int64.toUInt64 63)).toInt64 (lN 0) = 0 ↔ w.length ≤ i) := by
    intro i hi
    rw [lg_cmp_eq, wb_shr (by omega) (by omega), fb_lN_inj (Nat.lt_of_le_of_lt (Nat.div_le_self _ _) (by omega)) (by omega), pw6]
    unfold nmC
    rw [nmR_div _ _ (gRest_rev hg)]
    constructor
    · intro h
      have : w.reverse.drop i = [] := nmR_inj _ [] (fun x hx => gRest_rev hg x (List.mem_of_mem_drop hx)) (fun x hx => by cases hx) h
      have := List.drop_eq_nil_iff.mp this
      rw [List.length_reverse] at this
      exact this
    · intro h
      rw [List.drop_eq_nil_of_le (by rw [List.length_reverse]; exact h)]
      rfl
  intro m
  induction m with
  | zero =>
    intro i hi Q hq
    have hi : i = w.length := hi
    subst hi
    have kq := s_spell20 d σ hk hn hm hg h8 hb w [] rfl Q hq
    rw [wrT_nil] at kq
    have kq := Sat_no (ls := [some (vl (lN n)), none, some (vr 20 0), some (vi (nI b)), some (vl (lN (nmC w))), none, some (vi (nI w.length)), some (vi (nI b)), some (vi (nI w.length - nI 1)), none]) 6 kq
    refine wp_ok (cut := [9, 44]) ma_5 rfl 17 _ _ _ _ ?_
    show (((nI 8) ≤ (nI w.length) → Sat true (d + 1) 5 σ.1 Q 44 [some (vl (lN n)), none, some (vr 20 0), some (vi (nI b)), some (vl (lN (nmC w))), none, some (vi (nI w.length)), some (vi (nI b)), some (vi ((nI w.length) - (nI 1))), none] [] σ) ∧ (¬ (nI 8) ≤ (nI w.length) → (((lg_cmp (((lN (nmC w)).toUInt64 >>> (((nI 6) * (nI w.length)).toInt64.toUInt64 &&& Int64.toUInt64 63)).toInt64) (lN 0)) = 0 → Sat true (d + 1) 5 σ.1 Q 44 [some (vl (lN n)), none, some (vr 20 0), some (vi (nI b)), some (vl (lN (nmC w))), none, some (vi (nI w.length)), some (vi (nI b)), some (vi ((nI w.length) - (nI 1))), none] [] σ) ∧ (¬ (lg_cmp (((lN (nmC w)).toUInt64 >>> (((nI 6) * (nI w.length)).toInt64.toUInt64 &&& Int64.toUInt64 63)).toInt64) (lN 0)) = 0 → Sat true (d + 1) 5 σ.1 Q 9 [some (vl (lN n)), none, some (vr 20 0), some (vi (nI b)), some (vl (lN (nmC w))), none, some (vi ((nI w.length) + nI 1)), none, none, none] [] σ))))
    refine br_le (by omega) (by omega) (fun _ => kq) (fun h => ?_)
    rw [mulN]
    exact ⟨fun _ => kq, fun q => absurd ((hsh _ h).mpr (Nat.le_refl _)) q⟩
  | succ m ih =>
    intro i hi Q hq
    have kq := ih (i + 1) (by omega) Q hq
    refine wp_ok (cut := [9, 44]) ma_5 rfl 17 _ _ _ _ ?_
    show (((nI 8) ≤ (nI i) → Sat true (d + 1) 5 σ.1 Q 44 [some (vl (lN n)), none, some (vr 20 0), some (vi (nI b)), some (vl (lN (nmC w))), none, some (vi (nI i)), some (vi (nI b)), some (vi ((nI i) - (nI 1))), none] [] σ) ∧ (¬ (nI 8) ≤ (nI i) → (((lg_cmp (((lN (nmC w)).toUInt64 >>> (((nI 6) * (nI i)).toInt64.toUInt64 &&& Int64.toUInt64 63)).toInt64) (lN 0)) = 0 → Sat true (d + 1) 5 σ.1 Q 44 [some (vl (lN n)), none, some (vr 20 0), some (vi (nI b)), some (vl (lN (nmC w))), none, some (vi (nI i)), some (vi (nI b)), some (vi ((nI i) - (nI 1))), none] [] σ) ∧ (¬ (lg_cmp (((lN (nmC w)).toUInt64 >>> (((nI 6) * (nI i)).toInt64.toUInt64 &&& Int64.toUInt64 63)).toInt64) (lN 0)) = 0 → Sat true (d + 1) 5 σ.1 Q 9 [some (vl (lN n)), none, some (vr 20 0), some (vi (nI b)), some (vl (lN (nmC w))), none, some (vi ((nI i) + nI 1)), none, none, none] [] σ))))
    refine br_le (by omega) (by omega) (fun h => by omega) (fun h => ?_)
    rw [mulN, addN]
    exact ⟨fun q => absurd ((hsh _ h).mp q) (by omega), fun _ => kq⟩
theorem e_spell20 (d : Nat) (σ : Hp) {o : Option Anc} (ho : gAO o) {b : Nat} (hb : b + (txO o).length ≤ 13) : EI (d + 1) 5 [vl (lN (anO o)), vr 20 0, vi (nI b)] σ (nI (txO o).length) (wrT σ 20 b (txO o)) := by
  refine EI_of mt_5 (Nat.le_of_ble_eq_true rfl) fun Q hq => ?_
  have hlt := anO_b ho
  refine wp_ok (cut := [9]) ma_5 rfl 5 _ _ _ _ ?_
  show CalL true d 2 [vl (lN (anO o))] σ σ.1 (fun x2 s1 => Sat true (d + 1) 5 σ.1 Q 9 [some (vl (lN (anO o))), none, some (vr 20 0), some (vi (nI b)), some (vl x2), none, some (vi (nI 0)), none, none, none] [] s1)
  refine cal_l (e_nameOf d σ hlt) rfl ?_
  cases o with
  | none => exact s_letters20 d σ (kk := 0) (n := 0) (by omega) (by omega) rfl (w := []) (fun x hx => by cases hx) (by decide) hb 0 0 rfl Q hq
  | some x =>
    obtain ⟨w, k⟩ := x
    obtain ⟨g1, g2⟩ := ho _ rfl
    obtain ⟨n1, n2, n3⟩ := gName_r g1
    dsimp only at g2 n1 n2 n3
    have e : anO (some (w, k)) / 128 = nmC w := by show (nmC w * 128 + k) / 128 = nmC w; omega
    rw [e]
    exact s_letters20 d σ (kk := k) (n := anO (some (w, k))) g2 hlt (by show (nmC w * 128 + k) % 128 = k; omega) n1 n3 hb w.length 0 (by omega) Q hq
theorem e_spellNumber230 (d : Nat) (σ : Hp) {k b : Nat} (hk : k ≤ 99) (hb : b + (txNum k).length ≤ 11) : EI d 6 [vi (nI k), vr 230 0, vi (nI b)] σ (nI (txNum k).length) (wrT σ 230 b (txNum k)) := by
  refine EI_of mt_6 (Nat.le_of_ble_eq_true rfl) fun Q hq => ?_
  refine wp_ok (cut := []) ma_6 rfl 37 _ _ _ _ ?_
  show ((¬ (nI k) = 0 → (vp_in (nI b) 11 ∧ (((nI k) < (nI 10) → (¬ (nI 10) = 0 ∧ (vp_in ((nI b) + nI 1) 11 ∧ (Q (some (vi ((((nI b) + nI 1) + (nI 1)) - (nI b)))) (setI (setI σ 230 0 ((nI b).toNatClampNeg) (vp_nar .char (nI 45))) 230 0 (((nI b) + nI 1).toNatClampNeg) (vp_nar .char ((((nI 48) + ((nI k) - (nI k) / (nI 10) * (nI 10))).toUInt32 % 65536).toInt32))) ∧ σ.1 = σ.1)))) ∧ (¬ (nI k) < (nI 10) → (¬ (nI 10) = 0 ∧ (vp_in ((nI b) + nI 1) 11 ∧ (¬ (nI 10) = 0 ∧ (vp_in (((nI b) + nI 1) + nI 1) 11 ∧ (Q (some (vi (((((nI b) + nI 1) + nI 1) + (nI 1)) - (nI b)))) (setI (setI (setI σ 230 0 ((nI b).toNatClampNeg) (vp_nar .char (nI 45))) 230 0 (((nI b) + nI 1).toNatClampNeg) (vp_nar .char ((((nI 48) + ((nI k) / (nI 10))).toUInt32 % 65536).toInt32))) 230 0 ((((nI b) + nI 1) + nI 1).toNatClampNeg) (vp_nar .char ((((nI 48) + ((nI k) - (nI k) / (nI 10) * (nI 10))).toUInt32 % 65536).toInt32))) ∧ σ.1 = σ.1))))))))) ∧ ((nI k) = 0 → (Q (some (vi (nI 0))) σ ∧ σ.1 = σ.1)))
  unfold txNum at hq hb
  refine br_ne (b := 0) (by omega) (by omega) (fun h => ?_) (fun h => ?_)
  · rw [if_neg h] at hq hb
    rw [addN, nar_c (by omega), ix (by omega)]
    have e0 : setI σ 230 0 b (nI 45) = wrT σ 230 b [45] := by
      have := wrT_snoc σ 230 b [] 45
      rw [wrT_nil] at this
      exact this
    rw [e0]
    refine ⟨inb (by split at hb <;> (rw [List.length_cons] at hb; omega)) (by omega), ?_⟩
    refine br_lt (by omega) (by omega) (fun g => ?_) (fun g => ?_)
    · rw [if_pos g] at hq hb
      have hb : b + 2 ≤ 11 := hb
      rw [addN, subN (by omega), rem10 (by omega), Nat.mod_eq_of_lt g, addN, i2c_n (by omega), nar_c (by omega), ix (by omega)]
      have e1 : setI (wrT σ 230 b [45]) 230 0 (b + 1) (nI (48 + k)) = wrT σ 230 b [45, 48 + k] := wrT_snoc σ 230 b [45] (48 + k)
      rw [e1, show b + 1 + 1 - b = 2 by omega]
      exact ⟨by decide, inb (by omega) (by omega), hq, rfl⟩
    · rw [if_neg (by omega)] at hq hb
      have hb : b + 3 ≤ 11 := hb
      rw [rem10 (k := k) (by omega), div10 (k := k) (by omega)]
      simp only [addN]
      rw [subN (a := b + 1 + 1 + 1) (b := b) (by omega), i2c_n (n := 48 + k / 10) (by omega), i2c_n (n := 48 + k % 10) (by omega), nar_c (n := 48 + k / 10) (by omega), nar_c (n := 48 + k % 10) (by omega), ix (n := b + 1) (by omega), ix (n := b + 1 + 1) (by omega)]
      have e1 : setI (wrT σ 230 b [45]) 230 0 (b + 1) (nI (48 + k / 10)) = wrT σ 230 b [45, 48 + k / 10] := wrT_snoc σ 230 b [45] (48 + k / 10)
      have e2 : setI (wrT σ 230 b [45, 48 + k / 10]) 230 0 (b + 1 + 1) (nI (48 + k % 10)) = wrT σ 230 b [45, 48 + k / 10, 48 + k % 10] := wrT_snoc σ 230 b [45, 48 + k / 10] (48 + k % 10)
      rw [e1, e2, show b + 1 + 1 + 1 - b = 3 by omega]
      exact ⟨by decide, inb (by omega) (by omega), by decide, inb (by omega) (by omega), hq, trivial⟩
  · rw [if_pos h, wrT_nil] at hq
    exact ⟨hq, rfl⟩
theorem s_spell230 (d : Nat) (σ : Hp) {kk n b : Nat} (hk : kk ≤ 99) (hn : n < 36028797018963968) (hm : n % 128 = kk) {w : List Nat} (hg : gRest w) (h8 : w.length ≤ 8) (hb : b + (w ++ txNum kk).length ≤ 11) : ∀ (u v : List Nat), w = v ++ u → ∀ Q : Option AV → Hp → Prop, Q (some (vi (nI (w ++ txNum kk).length))) (wrT σ 230 b (w ++ txNum kk)) → Sat true (d + 1) 5 σ.1 Q 44 [some (vl (lN n)), none, some (vr 230 0), some (vi (nI b)), some (vl (lN (nmC w))), none, none, some (vi (nI (b + v.length))), some (vi (nI u.length - nI 1)), none] [] (wrT σ 230 b v) := by
  rw [List.length_append] at hb
  intro u
  induction u with
  | nil =>
    intro v hv Q hq
    rw [List.append_nil] at hv
    subst hv
    refine wp_ok (cut := [44]) ma_5 rfl 27 _ _ _ _ ?_
    show (((nI ([] : List Nat).length - nI 1) < 0 → CalI true d 6 [vi (((lN n) &&& (lN 127)).toInt32), vr 230 0, vi (nI (b + w.length))] (wrT σ 230 b w) σ.1 (fun x2 s1 => (Q (some (vi (((nI (b + w.length)) - (nI b)) + x2))) s1 ∧ s1.1 = σ.1))) ∧ (¬ (nI ([] : List Nat).length - nI 1) < 0 → (((nI 26) < (((((lN (nmC w)).toUInt64 >>> (((nI 6) * (nI ([] : List Nat).length - nI 1)).toInt64.toUInt64 &&& Int64.toUInt64 63)).toInt64) &&& (lN 63)).toInt32) → (vp_in (nI (b + w.length)) 11 ∧ Sat true (d + 1) 5 σ.1 Q 44 [some (vl (lN n)), none, some (vr 230 0), some (vi (nI b)), some (vl (lN (nmC w))), none, none, some (vi ((nI (b + w.length)) + nI 1)), some (vi ((nI ([] : List Nat).length - nI 1) + (-1))), some (vi (((((lN (nmC w)).toUInt64 >>> (((nI 6) * (nI ([] : List Nat).length - nI 1)).toInt64.toUInt64 &&& Int64.toUInt64 63)).toInt64) &&& (lN 63)).toInt32))] [] (setI (wrT σ 230 b w) 230 0 ((nI (b + w.length)).toNatClampNeg) (vp_nar .char (((((nI 48) + (((((lN (nmC w)).toUInt64 >>> (((nI 6) * (nI ([] : List Nat).length - nI 1)).toInt64.toUInt64 &&& Int64.toUInt64 63)).toInt64) &&& (lN 63)).toInt32)) - (nI 27)).toUInt32 % 65536).toInt32))))) ∧ (¬ (nI 26) < (((((lN (nmC w)).toUInt64 >>> (((nI 6) * (nI ([] : List Nat).length - nI 1)).toInt64.toUInt64 &&& Int64.toUInt64 63)).toInt64) &&& (lN 63)).toInt32) → (vp_in (nI (b + w.length)) 11 ∧ Sat true (d + 1) 5 σ.1 Q 44 [some (vl (lN n)), none, some (vr 230 0), some (vi (nI b)), some (vl (lN (nmC w))), none, none, some (vi ((nI (b + w.length)) + nI 1)), some (vi ((nI ([] : List Nat).length - nI 1) + (-1))), some (vi (((((lN (nmC w)).toUInt64 >>> (((nI 6) * (nI ([] : List Nat).length - nI 1)).toInt64.toUInt64 &&& Int64.toUInt64 63)).toInt64) &&& (lN 63)).toInt32))] [] (setI (wrT σ 230 b w) 230 0 ((nI (b + w.length)).toNatClampNeg) (vp_nar .char (((((nI 97) + (((((lN (nmC w)).toUInt64 >>> (((nI 6) * (nI ([] : List Nat).length - nI 1)).toInt64.toUInt64 &&& Int64.toUInt64 63)).toInt64) &&& (lN 63)).toInt32)) - (nI 1)).toUInt32 % 65536).toInt32))))))))
    refine ⟨fun _ => ?_, fun h => absurd (by decide : nI ([] : List Nat).length - nI 1 < 0) h⟩
    rw [show lN 127 = lN (2 ^ 7 - 1) from rfl, fb_maskL, show n % 2 ^ 7 = kk from hm, l2i_n (by omega), subN (by omega), show b + w.length - b = w.length by omega]
    refine cal_i (e_spellNumber230 d (wrT σ 230 b w) hk (by omega)) rfl ?_
    rw [addN, wrT_app]
    rw [List.length_append] at hq
    exact ⟨hq, rfl⟩
  | cons c u ih =>
    intro v hv Q hq
    have e : w = (v ++ [c]) ++ u := by rw [hv, List.append_assoc]; rfl
    have kq := ih (v ++ [c]) e Q hq
    have hc : isLt c ∨ isDg c := hg c (by rw [hv]; exact List.mem_append.mpr (Or.inr List.mem_cons_self))
    have hs := sy_b hc
    have hlen : w.length = v.length + (u.length + 1) := by rw [hv, List.length_append, List.length_cons]
    have hlt := nmR_lt _ (gRest_rev hg)
    have h2 : nmC w < 64 ^ 8 := Nat.lt_of_lt_of_le hlt (Nat.pow_le_pow_right (by decide) (by rw [List.length_reverse]; exact h8))
    have hdig : nmC w / 2 ^ (6 * u.length) % 64 = sy c := by
      rw [pw6]
      unfold nmC
      rw [nmR_div _ _ (gRest_rev hg), hv, List.reverse_append, List.reverse_cons, List.append_assoc, List.drop_append_of_le_length (by rw [List.length_reverse]; exact Nat.le_refl _), List.drop_eq_nil_of_le (by rw [List.length_reverse]; exact Nat.le_refl _)]
      show (nmR v.reverse * 64 + sy c) % 64 = sy c
      omega
    refine wp_ok (cut := [44]) ma_5 rfl 27 _ _ _ _ ?_
    show (((nI (c :: u).length - nI 1) < 0 → CalI true d 6 [vi (((lN n) &&& (lN 127)).toInt32), vr 230 0, vi (nI (b + v.length))] (wrT σ 230 b v) σ.1 (fun x2 s1 => (Q (some (vi (((nI (b + v.length)) - (nI b)) + x2))) s1 ∧ s1.1 = σ.1))) ∧ (¬ (nI (c :: u).length - nI 1) < 0 → (((nI 26) < (((((lN (nmC w)).toUInt64 >>> (((nI 6) * (nI (c :: u).length - nI 1)).toInt64.toUInt64 &&& Int64.toUInt64 63)).toInt64) &&& (lN 63)).toInt32) → (vp_in (nI (b + v.length)) 11 ∧ Sat true (d + 1) 5 σ.1 Q 44 [some (vl (lN n)), none, some (vr 230 0), some (vi (nI b)), some (vl (lN (nmC w))), none, none, some (vi ((nI (b + v.length)) + nI 1)), some (vi ((nI (c :: u).length - nI 1) + (-1))), some (vi (((((lN (nmC w)).toUInt64 >>> (((nI 6) * (nI (c :: u).length - nI 1)).toInt64.toUInt64 &&& Int64.toUInt64 63)).toInt64) &&& (lN 63)).toInt32))] [] (setI (wrT σ 230 b v) 230 0 ((nI (b + v.length)).toNatClampNeg) (vp_nar .char (((((nI 48) + (((((lN (nmC w)).toUInt64 >>> (((nI 6) * (nI (c :: u).length - nI 1)).toInt64.toUInt64 &&& Int64.toUInt64 63)).toInt64) &&& (lN 63)).toInt32)) - (nI 27)).toUInt32 % 65536).toInt32))))) ∧ (¬ (nI 26) < (((((lN (nmC w)).toUInt64 >>> (((nI 6) * (nI (c :: u).length - nI 1)).toInt64.toUInt64 &&& Int64.toUInt64 63)).toInt64) &&& (lN 63)).toInt32) → (vp_in (nI (b + v.length)) 11 ∧ Sat true (d + 1) 5 σ.1 Q 44 [some (vl (lN n)), none, some (vr 230 0), some (vi (nI b)), some (vl (lN (nmC w))), none, none, some (vi ((nI (b + v.length)) + nI 1)), some (vi ((nI (c :: u).length - nI 1) + (-1))), some (vi (((((lN (nmC w)).toUInt64 >>> (((nI 6) * (nI (c :: u).length - nI 1)).toInt64.toUInt64 &&& Int64.toUInt64 63)).toInt64) &&& (lN 63)).toInt32))] [] (setI (wrT σ 230 b v) 230 0 ((nI (b + v.length)).toNatClampNeg) (vp_nar .char (((((nI 97) + (((((lN (nmC w)).toUInt64 >>> (((nI 6) * (nI (c :: u).length - nI 1)).toInt64.toUInt64 &&& Int64.toUInt64 63)).toInt64) &&& (lN 63)).toInt32)) - (nI 1)).toUInt32 % 65536).toInt32))))))))
    have el : nI (c :: u).length - nI 1 = nI u.length := by
      rw [List.length_cons, subN (by omega)]
      rfl
    rw [el, mulN, wb_shr (by omega) (by omega), show lN 63 = lN (2 ^ 6 - 1) from rfl, fb_maskL, show nmC w / 2 ^ (6 * u.length) % 2 ^ 6 = sy c from hdig, l2i_n (by omega), addN, addN, addN, addm1, ix (by omega)]
    refine ⟨fun h => ?_, fun _ => ?_⟩
    · exact absurd ((ltN (a := u.length) (b := 0) (by omega) (by omega)).mp h) (by omega)
    have hin : vp_in (nI (b + v.length)) 11 := inb (by omega) (by omega)
    have hst : ∀ x, x = c → Sat true (d + 1) 5 σ.1 Q 44 [some (vl (lN n)), none, some (vr 230 0), some (vi (nI b)), some (vl (lN (nmC w))), none, none, some (vi (nI (b + v.length + 1))), some (vi (nI u.length - nI 1)), some (vi (nI (sy c)))] [] (setI (wrT σ 230 b v) 230 0 (b + v.length) (vp_nar .char ((nI x).toUInt32 % 65536).toInt32)) := by
      intro x hx
      have := ld_s hc
      rw [hx, i2c_n (by omega), nar_c (by omega), wrT_snoc]
      have ev : b + (v ++ [c]).length = b + v.length + 1 := by rw [List.length_append]; rfl
      rw [ev] at kq
      exact Sat_no 9 kq
    refine br_lt (by omega) (by omega) (fun h => ⟨hin, ?_⟩) (fun h => ⟨hin, ?_⟩)
    · rw [subN (a := 48 + sy c) (b := 27) (by omega)]
      refine hst _ ?_
      unfold sy at *
      rcases hc with ⟨q1, q2⟩ | ⟨q1, q2⟩
      · rw [if_pos q1] at *; omega
      · rw [if_neg (by omega)] at *; omega
    · rw [subN (a := 97 + sy c) (b := 1) (by omega)]
      refine hst _ ?_
      unfold sy at *
      rcases hc with ⟨q1, q2⟩ | ⟨q1, q2⟩
      · rw [if_pos q1] at *; omega
      · rw [if_neg (by omega)] at *; omega
theorem s_letters230 (d : Nat) (σ : Hp) {kk n b : Nat} (hk : kk ≤ 99) (hn : n < 36028797018963968) (hm : n % 128 = kk) {w : List Nat} (hg : gRest w) (h8 : w.length ≤ 8) (hb : b + (w ++ txNum kk).length ≤ 11) : ∀ (m i : Nat), i + m = w.length → ∀ Q : Option AV → Hp → Prop, Q (some (vi (nI (w ++ txNum kk).length))) (wrT σ 230 b (w ++ txNum kk)) → Sat true (d + 1) 5 σ.1 Q 9 [some (vl (lN n)), none, some (vr 230 0), some (vi (nI b)), some (vl (lN (nmC w))), none, some (vi (nI i)), none, none, none] [] σ := by
  have hlt := nmR_lt _ (gRest_rev hg)
  have h2 : nmC w < 64 ^ 8 := Nat.lt_of_lt_of_le hlt (Nat.pow_le_pow_right (by decide) (by rw [List.length_reverse]; exact h8))
  have hsh : ∀ i, i < 8 → (lg_cmp ((lN (nmC w)).toUInt64 >>> ((nI (6 * i)).toInt64.toUInt64 &&& Int64.toUInt64 63)).toInt64 (lN 0) = 0 ↔ w.length ≤ i) := by
    intro i hi
    rw [lg_cmp_eq, wb_shr (by omega) (by omega), fb_lN_inj (Nat.lt_of_le_of_lt (Nat.div_le_self _ _) (by omega)) (by omega), pw6]
    unfold nmC
    rw [nmR_div _ _ (gRest_rev hg)]
    constructor
    · intro h
      have : w.reverse.drop i = [] := nmR_inj _ [] (fun x hx => gRest_rev hg x (List.mem_of_mem_drop hx)) (fun x hx => by cases hx) h
      have := List.drop_eq_nil_iff.mp this
      rw [List.length_reverse] at this
      exact this
    · intro h
      rw [List.drop_eq_nil_of_le (by rw [List.length_reverse]; exact h)]
      rfl
  intro m
  induction m with
  | zero =>
    intro i hi Q hq
    have hi : i = w.length := hi
    subst hi
    have kq := s_spell230 d σ hk hn hm hg h8 hb w [] rfl Q hq
    rw [wrT_nil] at kq
    have kq := Sat_no (ls := [some (vl (lN n)), none, some (vr 230 0), some (vi (nI b)), some (vl (lN (nmC w))), none, some (vi (nI w.length)), some (vi (nI b)), some (vi (nI w.length - nI 1)), none]) 6 kq
    refine wp_ok (cut := [9, 44]) ma_5 rfl 17 _ _ _ _ ?_
    show (((nI 8) ≤ (nI w.length) → Sat true (d + 1) 5 σ.1 Q 44 [some (vl (lN n)), none, some (vr 230 0), some (vi (nI b)), some (vl (lN (nmC w))), none, some (vi (nI w.length)), some (vi (nI b)), some (vi ((nI w.length) - (nI 1))), none] [] σ) ∧ (¬ (nI 8) ≤ (nI w.length) → (((lg_cmp (((lN (nmC w)).toUInt64 >>> (((nI 6) * (nI w.length)).toInt64.toUInt64 &&& Int64.toUInt64 63)).toInt64) (lN 0)) = 0 → Sat true (d + 1) 5 σ.1 Q 44 [some (vl (lN n)), none, some (vr 230 0), some (vi (nI b)), some (vl (lN (nmC w))), none, some (vi (nI w.length)), some (vi (nI b)), some (vi ((nI w.length) - (nI 1))), none] [] σ) ∧ (¬ (lg_cmp (((lN (nmC w)).toUInt64 >>> (((nI 6) * (nI w.length)).toInt64.toUInt64 &&& Int64.toUInt64 63)).toInt64) (lN 0)) = 0 → Sat true (d + 1) 5 σ.1 Q 9 [some (vl (lN n)), none, some (vr 230 0), some (vi (nI b)), some (vl (lN (nmC w))), none, some (vi ((nI w.length) + nI 1)), none, none, none] [] σ))))
    refine br_le (by omega) (by omega) (fun _ => kq) (fun h => ?_)
    rw [mulN]
    exact ⟨fun _ => kq, fun q => absurd ((hsh _ h).mpr (Nat.le_refl _)) q⟩
  | succ m ih =>
    intro i hi Q hq
    have kq := ih (i + 1) (by omega) Q hq
    refine wp_ok (cut := [9, 44]) ma_5 rfl 17 _ _ _ _ ?_
    show (((nI 8) ≤ (nI i) → Sat true (d + 1) 5 σ.1 Q 44 [some (vl (lN n)), none, some (vr 230 0), some (vi (nI b)), some (vl (lN (nmC w))), none, some (vi (nI i)), some (vi (nI b)), some (vi ((nI i) - (nI 1))), none] [] σ) ∧ (¬ (nI 8) ≤ (nI i) → (((lg_cmp (((lN (nmC w)).toUInt64 >>> (((nI 6) * (nI i)).toInt64.toUInt64 &&& Int64.toUInt64 63)).toInt64) (lN 0)) = 0 → Sat true (d + 1) 5 σ.1 Q 44 [some (vl (lN n)), none, some (vr 230 0), some (vi (nI b)), some (vl (lN (nmC w))), none, some (vi (nI i)), some (vi (nI b)), some (vi ((nI i) - (nI 1))), none] [] σ) ∧ (¬ (lg_cmp (((lN (nmC w)).toUInt64 >>> (((nI 6) * (nI i)).toInt64.toUInt64 &&& Int64.toUInt64 63)).toInt64) (lN 0)) = 0 → Sat true (d + 1) 5 σ.1 Q 9 [some (vl (lN n)), none, some (vr 230 0), some (vi (nI b)), some (vl (lN (nmC w))), none, some (vi ((nI i) + nI 1)), none, none, none] [] σ))))
    refine br_le (by omega) (by omega) (fun h => by omega) (fun h => ?_)
    rw [mulN, addN]
    exact ⟨fun q => absurd ((hsh _ h).mp q) (by omega), fun _ => kq⟩
theorem e_spell230 (d : Nat) (σ : Hp) {o : Option Anc} (ho : gAO o) {b : Nat} (hb : b + (txO o).length ≤ 11) : EI (d + 1) 5 [vl (lN (anO o)), vr 230 0, vi (nI b)] σ (nI (txO o).length) (wrT σ 230 b (txO o)) := by
  refine EI_of mt_5 (Nat.le_of_ble_eq_true rfl) fun Q hq => ?_
  have hlt := anO_b ho
  refine wp_ok (cut := [9]) ma_5 rfl 5 _ _ _ _ ?_
  show CalL true d 2 [vl (lN (anO o))] σ σ.1 (fun x2 s1 => Sat true (d + 1) 5 σ.1 Q 9 [some (vl (lN (anO o))), none, some (vr 230 0), some (vi (nI b)), some (vl x2), none, some (vi (nI 0)), none, none, none] [] s1)
  refine cal_l (e_nameOf d σ hlt) rfl ?_
  cases o with
  | none => exact s_letters230 d σ (kk := 0) (n := 0) (by omega) (by omega) rfl (w := []) (fun x hx => by cases hx) (by decide) hb 0 0 rfl Q hq
  | some x =>
    obtain ⟨w, k⟩ := x
    obtain ⟨g1, g2⟩ := ho _ rfl
    obtain ⟨n1, n2, n3⟩ := gName_r g1
    dsimp only at g2 n1 n2 n3
    have e : anO (some (w, k)) / 128 = nmC w := by show (nmC w * 128 + k) / 128 = nmC w; omega
    rw [e]
    exact s_letters230 d σ (kk := k) (n := anO (some (w, k))) g2 hlt (by show (nmC w * 128 + k) % 128 = k; omega) n1 n3 hb w.length 0 (by omega) Q hq
theorem e_spellNumber231 (d : Nat) (σ : Hp) {k b : Nat} (hk : k ≤ 99) (hb : b + (txNum k).length ≤ 11) : EI d 6 [vi (nI k), vr 231 0, vi (nI b)] σ (nI (txNum k).length) (wrT σ 231 b (txNum k)) := by
  refine EI_of mt_6 (Nat.le_of_ble_eq_true rfl) fun Q hq => ?_
  refine wp_ok (cut := []) ma_6 rfl 37 _ _ _ _ ?_
  show ((¬ (nI k) = 0 → (vp_in (nI b) 11 ∧ (((nI k) < (nI 10) → (¬ (nI 10) = 0 ∧ (vp_in ((nI b) + nI 1) 11 ∧ (Q (some (vi ((((nI b) + nI 1) + (nI 1)) - (nI b)))) (setI (setI σ 231 0 ((nI b).toNatClampNeg) (vp_nar .char (nI 45))) 231 0 (((nI b) + nI 1).toNatClampNeg) (vp_nar .char ((((nI 48) + ((nI k) - (nI k) / (nI 10) * (nI 10))).toUInt32 % 65536).toInt32))) ∧ σ.1 = σ.1)))) ∧ (¬ (nI k) < (nI 10) → (¬ (nI 10) = 0 ∧ (vp_in ((nI b) + nI 1) 11 ∧ (¬ (nI 10) = 0 ∧ (vp_in (((nI b) + nI 1) + nI 1) 11 ∧ (Q (some (vi (((((nI b) + nI 1) + nI 1) + (nI 1)) - (nI b)))) (setI (setI (setI σ 231 0 ((nI b).toNatClampNeg) (vp_nar .char (nI 45))) 231 0 (((nI b) + nI 1).toNatClampNeg) (vp_nar .char ((((nI 48) + ((nI k) / (nI 10))).toUInt32 % 65536).toInt32))) 231 0 ((((nI b) + nI 1) + nI 1).toNatClampNeg) (vp_nar .char ((((nI 48) + ((nI k) - (nI k) / (nI 10) * (nI 10))).toUInt32 % 65536).toInt32))) ∧ σ.1 = σ.1))))))))) ∧ ((nI k) = 0 → (Q (some (vi (nI 0))) σ ∧ σ.1 = σ.1)))
  unfold txNum at hq hb
  refine br_ne (b := 0) (by omega) (by omega) (fun h => ?_) (fun h => ?_)
  · rw [if_neg h] at hq hb
    rw [addN, nar_c (by omega), ix (by omega)]
    have e0 : setI σ 231 0 b (nI 45) = wrT σ 231 b [45] := by
      have := wrT_snoc σ 231 b [] 45
      rw [wrT_nil] at this
      exact this
    rw [e0]
    refine ⟨inb (by split at hb <;> (rw [List.length_cons] at hb; omega)) (by omega), ?_⟩
    refine br_lt (by omega) (by omega) (fun g => ?_) (fun g => ?_)
    · rw [if_pos g] at hq hb
      have hb : b + 2 ≤ 11 := hb
      rw [addN, subN (by omega), rem10 (by omega), Nat.mod_eq_of_lt g, addN, i2c_n (by omega), nar_c (by omega), ix (by omega)]
      have e1 : setI (wrT σ 231 b [45]) 231 0 (b + 1) (nI (48 + k)) = wrT σ 231 b [45, 48 + k] := wrT_snoc σ 231 b [45] (48 + k)
      rw [e1, show b + 1 + 1 - b = 2 by omega]
      exact ⟨by decide, inb (by omega) (by omega), hq, rfl⟩
    · rw [if_neg (by omega)] at hq hb
      have hb : b + 3 ≤ 11 := hb
      rw [rem10 (k := k) (by omega), div10 (k := k) (by omega)]
      simp only [addN]
      rw [subN (a := b + 1 + 1 + 1) (b := b) (by omega), i2c_n (n := 48 + k / 10) (by omega), i2c_n (n := 48 + k % 10) (by omega), nar_c (n := 48 + k / 10) (by omega), nar_c (n := 48 + k % 10) (by omega), ix (n := b + 1) (by omega), ix (n := b + 1 + 1) (by omega)]
      have e1 : setI (wrT σ 231 b [45]) 231 0 (b + 1) (nI (48 + k / 10)) = wrT σ 231 b [45, 48 + k / 10] := wrT_snoc σ 231 b [45] (48 + k / 10)
      have e2 : setI (wrT σ 231 b [45, 48 + k / 10]) 231 0 (b + 1 + 1) (nI (48 + k % 10)) = wrT σ 231 b [45, 48 + k / 10, 48 + k % 10] := wrT_snoc σ 231 b [45, 48 + k / 10] (48 + k % 10)
      rw [e1, e2, show b + 1 + 1 + 1 - b = 3 by omega]
      exact ⟨by decide, inb (by omega) (by omega), by decide, inb (by omega) (by omega), hq, trivial⟩
  · rw [if_pos h, wrT_nil] at hq
    exact ⟨hq, rfl⟩
theorem s_spell231 (d : Nat) (σ : Hp) {kk n b : Nat} (hk : kk ≤ 99) (hn : n < 36028797018963968) (hm : n % 128 = kk) {w : List Nat} (hg : gRest w) (h8 : w.length ≤ 8) (hb : b + (w ++ txNum kk).length ≤ 11) : ∀ (u v : List Nat), w = v ++ u → ∀ Q : Option AV → Hp → Prop, Q (some (vi (nI (w ++ txNum kk).length))) (wrT σ 231 b (w ++ txNum kk)) → Sat true (d + 1) 5 σ.1 Q 44 [some (vl (lN n)), none, some (vr 231 0), some (vi (nI b)), some (vl (lN (nmC w))), none, none, some (vi (nI (b + v.length))), some (vi (nI u.length - nI 1)), none] [] (wrT σ 231 b v) := by
  rw [List.length_append] at hb
  intro u
  induction u with
  | nil =>
    intro v hv Q hq
    rw [List.append_nil] at hv
    subst hv
    refine wp_ok (cut := [44]) ma_5 rfl 27 _ _ _ _ ?_
    show (((nI ([] : List Nat).length - nI 1) < 0 → CalI true d 6 [vi (((lN n) &&& (lN 127)).toInt32), vr 231 0, vi (nI (b + w.length))] (wrT σ 231 b w) σ.1 (fun x2 s1 => (Q (some (vi (((nI (b + w.length)) - (nI b)) + x2))) s1 ∧ s1.1 = σ.1))) ∧ (¬ (nI ([] : List Nat).length - nI 1) < 0 → (((nI 26) < (((((lN (nmC w)).toUInt64 >>> (((nI 6) * (nI ([] : List Nat).length - nI 1)).toInt64.toUInt64 &&& Int64.toUInt64 63)).toInt64) &&& (lN 63)).toInt32) → (vp_in (nI (b + w.length)) 11 ∧ Sat true (d + 1) 5 σ.1 Q 44 [some (vl (lN n)), none, some (vr 231 0), some (vi (nI b)), some (vl (lN (nmC w))), none, none, some (vi ((nI (b + w.length)) + nI 1)), some (vi ((nI ([] : List Nat).length - nI 1) + (-1))), some (vi (((((lN (nmC w)).toUInt64 >>> (((nI 6) * (nI ([] : List Nat).length - nI 1)).toInt64.toUInt64 &&& Int64.toUInt64 63)).toInt64) &&& (lN 63)).toInt32))] [] (setI (wrT σ 231 b w) 231 0 ((nI (b + w.length)).toNatClampNeg) (vp_nar .char (((((nI 48) + (((((lN (nmC w)).toUInt64 >>> (((nI 6) * (nI ([] : List Nat).length - nI 1)).toInt64.toUInt64 &&& Int64.toUInt64 63)).toInt64) &&& (lN 63)).toInt32)) - (nI 27)).toUInt32 % 65536).toInt32))))) ∧ (¬ (nI 26) < (((((lN (nmC w)).toUInt64 >>> (((nI 6) * (nI ([] : List Nat).length - nI 1)).toInt64.toUInt64 &&& Int64.toUInt64 63)).toInt64) &&& (lN 63)).toInt32) → (vp_in (nI (b + w.length)) 11 ∧ Sat true (d + 1) 5 σ.1 Q 44 [some (vl (lN n)), none, some (vr 231 0), some (vi (nI b)), some (vl (lN (nmC w))), none, none, some (vi ((nI (b + w.length)) + nI 1)), some (vi ((nI ([] : List Nat).length - nI 1) + (-1))), some (vi (((((lN (nmC w)).toUInt64 >>> (((nI 6) * (nI ([] : List Nat).length - nI 1)).toInt64.toUInt64 &&& Int64.toUInt64 63)).toInt64) &&& (lN 63)).toInt32))] [] (setI (wrT σ 231 b w) 231 0 ((nI (b + w.length)).toNatClampNeg) (vp_nar .char (((((nI 97) + (((((lN (nmC w)).toUInt64 >>> (((nI 6) * (nI ([] : List Nat).length - nI 1)).toInt64.toUInt64 &&& Int64.toUInt64 63)).toInt64) &&& (lN 63)).toInt32)) - (nI 1)).toUInt32 % 65536).toInt32))))))))
    refine ⟨fun _ => ?_, fun h => absurd (by decide : nI ([] : List Nat).length - nI 1 < 0) h⟩
    rw [show lN 127 = lN (2 ^ 7 - 1) from rfl, fb_maskL, show n % 2 ^ 7 = kk from hm, l2i_n (by omega), subN (by omega), show b + w.length - b = w.length by omega]
    refine cal_i (e_spellNumber231 d (wrT σ 231 b w) hk (by omega)) rfl ?_
    rw [addN, wrT_app]
    rw [List.length_append] at hq
    exact ⟨hq, rfl⟩
  | cons c u ih =>
    intro v hv Q hq
    have e : w = (v ++ [c]) ++ u := by rw [hv, List.append_assoc]; rfl
    have kq := ih (v ++ [c]) e Q hq
    have hc : isLt c ∨ isDg c := hg c (by rw [hv]; exact List.mem_append.mpr (Or.inr List.mem_cons_self))
    have hs := sy_b hc
    have hlen : w.length = v.length + (u.length + 1) := by rw [hv, List.length_append, List.length_cons]
    have hlt := nmR_lt _ (gRest_rev hg)
    have h2 : nmC w < 64 ^ 8 := Nat.lt_of_lt_of_le hlt (Nat.pow_le_pow_right (by decide) (by rw [List.length_reverse]; exact h8))
    have hdig : nmC w / 2 ^ (6 * u.length) % 64 = sy c := by
      rw [pw6]
      unfold nmC
      rw [nmR_div _ _ (gRest_rev hg), hv, List.reverse_append, List.reverse_cons, List.append_assoc, List.drop_append_of_le_length (by rw [List.length_reverse]; exact Nat.le_refl _), List.drop_eq_nil_of_le (by rw [List.length_reverse]; exact Nat.le_refl _)]
      show (nmR v.reverse * 64 + sy c) % 64 = sy c
      omega
    refine wp_ok (cut := [44]) ma_5 rfl 27 _ _ _ _ ?_
    show (((nI (c :: u).length - nI 1) < 0 → CalI true d 6 [vi (((lN n) &&& (lN 127)).toInt32), vr 231 0, vi (nI (b + v.length))] (wrT σ 231 b v) σ.1 (fun x2 s1 => (Q (some (vi (((nI (b + v.length)) - (nI b)) + x2))) s1 ∧ s1.1 = σ.1))) ∧ (¬ (nI (c :: u).length - nI 1) < 0 → (((nI 26) < (((((lN (nmC w)).toUInt64 >>> (((nI 6) * (nI (c :: u).length - nI 1)).toInt64.toUInt64 &&& Int64.toUInt64 63)).toInt64) &&& (lN 63)).toInt32) → (vp_in (nI (b + v.length)) 11 ∧ Sat true (d + 1) 5 σ.1 Q 44 [some (vl (lN n)), none, some (vr 231 0), some (vi (nI b)), some (vl (lN (nmC w))), none, none, some (vi ((nI (b + v.length)) + nI 1)), some (vi ((nI (c :: u).length - nI 1) + (-1))), some (vi (((((lN (nmC w)).toUInt64 >>> (((nI 6) * (nI (c :: u).length - nI 1)).toInt64.toUInt64 &&& Int64.toUInt64 63)).toInt64) &&& (lN 63)).toInt32))] [] (setI (wrT σ 231 b v) 231 0 ((nI (b + v.length)).toNatClampNeg) (vp_nar .char (((((nI 48) + (((((lN (nmC w)).toUInt64 >>> (((nI 6) * (nI (c :: u).length - nI 1)).toInt64.toUInt64 &&& Int64.toUInt64 63)).toInt64) &&& (lN 63)).toInt32)) - (nI 27)).toUInt32 % 65536).toInt32))))) ∧ (¬ (nI 26) < (((((lN (nmC w)).toUInt64 >>> (((nI 6) * (nI (c :: u).length - nI 1)).toInt64.toUInt64 &&& Int64.toUInt64 63)).toInt64) &&& (lN 63)).toInt32) → (vp_in (nI (b + v.length)) 11 ∧ Sat true (d + 1) 5 σ.1 Q 44 [some (vl (lN n)), none, some (vr 231 0), some (vi (nI b)), some (vl (lN (nmC w))), none, none, some (vi ((nI (b + v.length)) + nI 1)), some (vi ((nI (c :: u).length - nI 1) + (-1))), some (vi (((((lN (nmC w)).toUInt64 >>> (((nI 6) * (nI (c :: u).length - nI 1)).toInt64.toUInt64 &&& Int64.toUInt64 63)).toInt64) &&& (lN 63)).toInt32))] [] (setI (wrT σ 231 b v) 231 0 ((nI (b + v.length)).toNatClampNeg) (vp_nar .char (((((nI 97) + (((((lN (nmC w)).toUInt64 >>> (((nI 6) * (nI (c :: u).length - nI 1)).toInt64.toUInt64 &&& Int64.toUInt64 63)).toInt64) &&& (lN 63)).toInt32)) - (nI 1)).toUInt32 % 65536).toInt32))))))))
    have el : nI (c :: u).length - nI 1 = nI u.length := by
      rw [List.length_cons, subN (by omega)]
      rfl
    rw [el, mulN, wb_shr (by omega) (by omega), show lN 63 = lN (2 ^ 6 - 1) from rfl, fb_maskL, show nmC w / 2 ^ (6 * u.length) % 2 ^ 6 = sy c from hdig, l2i_n (by omega), addN, addN, addN, addm1, ix (by omega)]
    refine ⟨fun h => ?_, fun _ => ?_⟩
    · exact absurd ((ltN (a := u.length) (b := 0) (by omega) (by omega)).mp h) (by omega)
    have hin : vp_in (nI (b + v.length)) 11 := inb (by omega) (by omega)
    have hst : ∀ x, x = c → Sat true (d + 1) 5 σ.1 Q 44 [some (vl (lN n)), none, some (vr 231 0), some (vi (nI b)), some (vl (lN (nmC w))), none, none, some (vi (nI (b + v.length + 1))), some (vi (nI u.length - nI 1)), some (vi (nI (sy c)))] [] (setI (wrT σ 231 b v) 231 0 (b + v.length) (vp_nar .char ((nI x).toUInt32 % 65536).toInt32)) := by
      intro x hx
      have := ld_s hc
      rw [hx, i2c_n (by omega), nar_c (by omega), wrT_snoc]
      have ev : b + (v ++ [c]).length = b + v.length + 1 := by rw [List.length_append]; rfl
      rw [ev] at kq
      exact Sat_no 9 kq
    refine br_lt (by omega) (by omega) (fun h => ⟨hin, ?_⟩) (fun h => ⟨hin, ?_⟩)
    · rw [subN (a := 48 + sy c) (b := 27) (by omega)]
      refine hst _ ?_
      unfold sy at *
      rcases hc with ⟨q1, q2⟩ | ⟨q1, q2⟩
      · rw [if_pos q1] at *; omega
      · rw [if_neg (by omega)] at *; omega
    · rw [subN (a := 97 + sy c) (b := 1) (by omega)]
      refine hst _ ?_
      unfold sy at *
      rcases hc with ⟨q1, q2⟩ | ⟨q1, q2⟩
      · rw [if_pos q1] at *; omega
      · rw [if_neg (by omega)] at *; omega
theorem s_letters231 (d : Nat) (σ : Hp) {kk n b : Nat} (hk : kk ≤ 99) (hn : n < 36028797018963968) (hm : n % 128 = kk) {w : List Nat} (hg : gRest w) (h8 : w.length ≤ 8) (hb : b + (w ++ txNum kk).length ≤ 11) : ∀ (m i : Nat), i + m = w.length → ∀ Q : Option AV → Hp → Prop, Q (some (vi (nI (w ++ txNum kk).length))) (wrT σ 231 b (w ++ txNum kk)) → Sat true (d + 1) 5 σ.1 Q 9 [some (vl (lN n)), none, some (vr 231 0), some (vi (nI b)), some (vl (lN (nmC w))), none, some (vi (nI i)), none, none, none] [] σ := by
  have hlt := nmR_lt _ (gRest_rev hg)
  have h2 : nmC w < 64 ^ 8 := Nat.lt_of_lt_of_le hlt (Nat.pow_le_pow_right (by decide) (by rw [List.length_reverse]; exact h8))
  have hsh : ∀ i, i < 8 → (lg_cmp ((lN (nmC w)).toUInt64 >>> ((nI (6 * i)).toInt64.toUInt64 &&& Int64.toUInt64 63)).toInt64 (lN 0) = 0 ↔ w.length ≤ i) := by
    intro i hi
    rw [lg_cmp_eq, wb_shr (by omega) (by omega), fb_lN_inj (Nat.lt_of_le_of_lt (Nat.div_le_self _ _) (by omega)) (by omega), pw6]
    unfold nmC
    rw [nmR_div _ _ (gRest_rev hg)]
    constructor
    · intro h
      have : w.reverse.drop i = [] := nmR_inj _ [] (fun x hx => gRest_rev hg x (List.mem_of_mem_drop hx)) (fun x hx => by cases hx) h
      have := List.drop_eq_nil_iff.mp this
      rw [List.length_reverse] at this
      exact this
    · intro h
      rw [List.drop_eq_nil_of_le (by rw [List.length_reverse]; exact h)]
      rfl
  intro m
  induction m with
  | zero =>
    intro i hi Q hq
    have hi : i = w.length := hi
    subst hi
    have kq := s_spell231 d σ hk hn hm hg h8 hb w [] rfl Q hq
    rw [wrT_nil] at kq
    have kq := Sat_no (ls := [some (vl (lN n)), none, some (vr 231 0), some (vi (nI b)), some (vl (lN (nmC w))), none, some (vi (nI w.length)), some (vi (nI b)), some (vi (nI w.length - nI 1)), none]) 6 kq
    refine wp_ok (cut := [9, 44]) ma_5 rfl 17 _ _ _ _ ?_
    show (((nI 8) ≤ (nI w.length) → Sat true (d + 1) 5 σ.1 Q 44 [some (vl (lN n)), none, some (vr 231 0), some (vi (nI b)), some (vl (lN (nmC w))), none, some (vi (nI w.length)), some (vi (nI b)), some (vi ((nI w.length) - (nI 1))), none] [] σ) ∧ (¬ (nI 8) ≤ (nI w.length) → (((lg_cmp (((lN (nmC w)).toUInt64 >>> (((nI 6) * (nI w.length)).toInt64.toUInt64 &&& Int64.toUInt64 63)).toInt64) (lN 0)) = 0 → Sat true (d + 1) 5 σ.1 Q 44 [some (vl (lN n)), none, some (vr 231 0), some (vi (nI b)), some (vl (lN (nmC w))), none, some (vi (nI w.length)), some (vi (nI b)), some (vi ((nI w.length) - (nI 1))), none] [] σ) ∧ (¬ (lg_cmp (((lN (nmC w)).toUInt64 >>> (((nI 6) * (nI w.length)).toInt64.toUInt64 &&& Int64.toUInt64 63)).toInt64) (lN 0)) = 0 → Sat true (d + 1) 5 σ.1 Q 9 [some (vl (lN n)), none, some (vr 231 0), some (vi (nI b)), some (vl (lN (nmC w))), none, some (vi ((nI w.length) + nI 1)), none, none, none] [] σ))))
    refine br_le (by omega) (by omega) (fun _ => kq) (fun h => ?_)
    rw [mulN]
    exact ⟨fun _ => kq, fun q => absurd ((hsh _ h).mpr (Nat.le_refl _)) q⟩
  | succ m ih =>
    intro i hi Q hq
    have kq := ih (i + 1) (by omega) Q hq
    refine wp_ok (cut := [9, 44]) ma_5 rfl 17 _ _ _ _ ?_
    show (((nI 8) ≤ (nI i) → Sat true (d + 1) 5 σ.1 Q 44 [some (vl (lN n)), none, some (vr 231 0), some (vi (nI b)), some (vl (lN (nmC w))), none, some (vi (nI i)), some (vi (nI b)), some (vi ((nI i) - (nI 1))), none] [] σ) ∧ (¬ (nI 8) ≤ (nI i) → (((lg_cmp (((lN (nmC w)).toUInt64 >>> (((nI 6) * (nI i)).toInt64.toUInt64 &&& Int64.toUInt64 63)).toInt64) (lN 0)) = 0 → Sat true (d + 1) 5 σ.1 Q 44 [some (vl (lN n)), none, some (vr 231 0), some (vi (nI b)), some (vl (lN (nmC w))), none, some (vi (nI i)), some (vi (nI b)), some (vi ((nI i) - (nI 1))), none] [] σ) ∧ (¬ (lg_cmp (((lN (nmC w)).toUInt64 >>> (((nI 6) * (nI i)).toInt64.toUInt64 &&& Int64.toUInt64 63)).toInt64) (lN 0)) = 0 → Sat true (d + 1) 5 σ.1 Q 9 [some (vl (lN n)), none, some (vr 231 0), some (vi (nI b)), some (vl (lN (nmC w))), none, some (vi ((nI i) + nI 1)), none, none, none] [] σ))))
    refine br_le (by omega) (by omega) (fun h => by omega) (fun h => ?_)
    rw [mulN, addN]
    exact ⟨fun q => absurd ((hsh _ h).mp q) (by omega), fun _ => kq⟩
theorem e_spell231 (d : Nat) (σ : Hp) {o : Option Anc} (ho : gAO o) {b : Nat} (hb : b + (txO o).length ≤ 11) : EI (d + 1) 5 [vl (lN (anO o)), vr 231 0, vi (nI b)] σ (nI (txO o).length) (wrT σ 231 b (txO o)) := by
  refine EI_of mt_5 (Nat.le_of_ble_eq_true rfl) fun Q hq => ?_
  have hlt := anO_b ho
  refine wp_ok (cut := [9]) ma_5 rfl 5 _ _ _ _ ?_
  show CalL true d 2 [vl (lN (anO o))] σ σ.1 (fun x2 s1 => Sat true (d + 1) 5 σ.1 Q 9 [some (vl (lN (anO o))), none, some (vr 231 0), some (vi (nI b)), some (vl x2), none, some (vi (nI 0)), none, none, none] [] s1)
  refine cal_l (e_nameOf d σ hlt) rfl ?_
  cases o with
  | none => exact s_letters231 d σ (kk := 0) (n := 0) (by omega) (by omega) rfl (w := []) (fun x hx => by cases hx) (by decide) hb 0 0 rfl Q hq
  | some x =>
    obtain ⟨w, k⟩ := x
    obtain ⟨g1, g2⟩ := ho _ rfl
    obtain ⟨n1, n2, n3⟩ := gName_r g1
    dsimp only at g2 n1 n2 n3
    have e : anO (some (w, k)) / 128 = nmC w := by show (nmC w * 128 + k) / 128 = nmC w; omega
    rw [e]
    exact s_letters231 d σ (kk := k) (n := anO (some (w, k))) g2 hlt (by show (nmC w * 128 + k) % 128 = k; omega) n1 n3 hb w.length 0 (by omega) Q hq
