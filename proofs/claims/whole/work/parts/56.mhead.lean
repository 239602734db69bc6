/-! the model: push, namesakes, appendSign, keepHeading -/
def ctS (c : Nat → Nat) (v : Nat) : Nat → Nat := fun k => if k = v then c v + 1 else if v < k then 0 else c k
def ctF (hs : List Hd) : Nat → Nat := hs.foldl (fun c x => ctS c x.1) (fun _ => 0)
theorem ctF_sn (hs : List Hd) (x : Hd) : ctF (hs ++ [x]) = ctS (ctF hs) x.1 := by
  unfold ctF
  rw [List.foldl_append]
  rfl
def HedM (h : Hp) (r : Nat) (hs : List Hd) (j : Nat) (x : Hd) : Prop := hI h 242 0 (100 * r + j) = nI x.1 ∧ hI h 243 0 (100 * r + j) = nI x.2.1 ∧ RowA (hI h 245 0) (12 * (100 * r + j)) (txAnc x.2.2.1) ∧ hI h 246 0 (100 * r + j) = nI x.2.2.1.1.length ∧ gAnc x.2.2.1 ∧ ∀ k, k < 10 → hI h 244 0 (10 * (100 * r + j) + k) = nI (if k + 1 ≤ x.1 then ctF (hs.take (j + 1)) (k + 1) else 0)
theorem cntN_sn (w : List Nat) (a : List Hd) (x : Hd) : cntN w (a ++ [x]) = cntN w a + (if x.2.2.1.1 = w then 1 else 0) := by
  rw [cntN_app]
  rfl
theorem m_push (d : Nat) (σ : Hp) {p add m : Nat} (hm : m < 13) (h30 : hI σ 233 0 30 = nI m) : EV d 152 [vr 233 0, vi (nI p), vi (nI add)] σ (setI (setI (setI (setI (setI σ 257 0 m (nI p)) 258 0 m (nI 0)) 259 0 m (nI add)) 233 0 30 (nI (m + 1))) 233 0 31 (hI σ 233 0 31 ||| bit p)) := by
  refine EV_of mt_152 (Nat.le_of_ble_eq_true rfl) fun Q hq => ?_
  refine wp_ok (cut := []) ma_152 rfl 33 _ _ _ _ ?_
  show (vp_in (hI σ 233 0 30) 13 ∧ (vp_in (hI σ 233 0 30) 13 ∧ (vp_in (hI σ 233 0 30) 13 ∧ (Q none (setI (setI (setI (setI (setI σ 257 0 ((hI σ 233 0 30).toNatClampNeg) (nI p)) 258 0 ((hI σ 233 0 30).toNatClampNeg) (nI 0)) 259 0 ((hI σ 233 0 30).toNatClampNeg) (nI add)) 233 0 30 ((hI σ 233 0 30) + (nI 1))) 233 0 31 ((hI σ 233 0 31) ||| ((nI 1) <<< ((nI p) &&& 31)))) ∧ σ.1 = σ.1))))
  rw [h30, ix (by omega), addN]
  exact ⟨inb (by omega) (by omega), inb (by omega) (by omega), inb (by omega) (by omega), hq, rfl⟩
theorem m_appendSign (d : Nat) (σ : Hp) {t c : Nat} {u : Nat → Int32} {w : List Nat} (ht : t + 12 ≤ 20448) (hw : w.length ≤ 10) : EV d 154 [vr 233 0, vi (nI t), vi (nI c)] (arrI σ 245 0 (rowA u t w)) (arrI σ 245 0 (rowA u t (w ++ [c]))) := by
  refine EV_of mt_154 (Nat.le_of_ble_eq_true rfl) fun Q hq => ?_
  have e0 : hI (arrI σ 245 0 (rowA u t w)) 245 0 t = nI w.length := by rw [hI_a]; exact (rowA_row u t w).1
  refine wp_ok (cut := []) ma_154 rfl 19 _ _ _ _ ?_
  show (vp_in (nI t) 20448 ∧ (vp_in (nI t) 20448 ∧ (vp_in (nI t) 20448 ∧ (vp_in ((nI t) + (hI (setI (arrI σ 245 0 (rowA u t w)) 245 0 ((nI t).toNatClampNeg) ((hI (arrI σ 245 0 (rowA u t w)) 245 0 ((nI t).toNatClampNeg)) + (nI 1))) 245 0 ((nI t).toNatClampNeg))) 20448 ∧ (Q none (setI (setI (arrI σ 245 0 (rowA u t w)) 245 0 ((nI t).toNatClampNeg) ((hI (arrI σ 245 0 (rowA u t w)) 245 0 ((nI t).toNatClampNeg)) + (nI 1))) 245 0 (((nI t) + (hI (setI (arrI σ 245 0 (rowA u t w)) 245 0 ((nI t).toNatClampNeg) ((hI (arrI σ 245 0 (rowA u t w)) 245 0 ((nI t).toNatClampNeg)) + (nI 1))) 245 0 ((nI t).toNatClampNeg))).toNatClampNeg) (nI c)) ∧ (arrI σ 245 0 (rowA u t w)).1 = σ.1)))))
  rw [ix (by omega), e0, addN, hI_s, addN, ix (by omega)]
  refine ⟨inb (by omega) (by omega), inb (by omega) (by omega), inb (by omega) (by omega), inb (by omega) (by omega), ?_, rfl⟩
  rw [arrI_setI, arrI_setI]
  have e : upd (upd (rowA u t w) t (nI (w.length + 1))) (t + (w.length + 1)) (nI c) = rowA u t (w ++ [c]) := by
    funext k
    unfold upd rowA
    by_cases k1 : k = t + (w.length + 1)
    · rw [if_pos k1, if_pos (by omega), if_neg (by omega), k1, show t + (w.length + 1) - t - 1 = w.length by omega, List.getD_eq_getElem?_getD, List.getElem?_append_right (Nat.le_refl _), Nat.sub_self]
      rfl
    · rw [if_neg k1]
      by_cases k2 : k = t
      · rw [if_pos k2, if_pos (by omega), if_pos k2, List.length_append]
        rfl
      · rw [if_neg k2]
        by_cases k3 : t ≤ k ∧ k < t + 12
        · rw [if_pos k3, if_pos k3, if_neg k2, if_neg k2]
          by_cases k4 : k - t - 1 < w.length
          · rw [List.getD_eq_getElem?_getD, List.getD_eq_getElem?_getD, List.getElem?_append_left k4]
          · rw [List.getD_eq_getElem?_getD, List.getD_eq_getElem?_getD, List.getElem?_eq_none (by omega), List.getElem?_eq_none (by rw [List.length_append]; show w.length + 1 ≤ _; omega)]
        · rw [if_neg k3, if_neg k3]
  rw [e]
  exact hq
theorem getD_app {a b : List Nat} {i : Nat} (h : i < a.length) : (a ++ b).getD i 0 = a.getD i 0 := by
  rw [List.getD_eq_getElem?_getD, List.getD_eq_getElem?_getD, List.getElem?_append_left h]
theorem getD_ext {a b : List Nat} (hl : a.length = b.length) (h : ∀ j, j < a.length → a.getD j 0 = b.getD j 0) : a = b := by
  refine List.ext_getElem? fun i => ?_
  by_cases q : i < a.length
  · have := h i q
    rw [List.getD_eq_getElem?_getD, List.getD_eq_getElem?_getD, List.getElem?_eq_getElem q, List.getElem?_eq_getElem (hl ▸ q)] at this
    rw [List.getElem?_eq_getElem q, List.getElem?_eq_getElem (hl ▸ q)]
    exact congrArg some this
  · rw [List.getElem?_eq_none (by omega), List.getElem?_eq_none (by omega)]
theorem getD_lt {w : List Nat} {b : Nat} (h : ∀ x ∈ w, x < b) (hb : 0 < b) (k : Nat) : w.getD k 0 < b := by
  rw [List.getD_eq_getElem?_getD]
  by_cases q : k < w.length
  · rw [List.getElem?_eq_getElem q]
    exact h _ (List.getElem_mem q)
  · rw [List.getElem?_eq_none (by omega)]
    exact hb
theorem gName_len {w : List Nat} (h : gName w) : 1 ≤ w.length ∧ w.length ≤ 8 := by
  obtain ⟨c, r, e, _, _, q⟩ := h
  rw [e, List.length_cons]
  omega
theorem gName_lt {w : List Nat} (h : gName w) : ∀ x ∈ w, x < 128 := by
  obtain ⟨c, r, e, h1, h2, q⟩ := h
  intro x hx
  rw [e] at hx
  cases hx with
  | head => have := h1.2; omega
  | tail _ g => rcases h2 x g with w | w <;> (have := w.2; omega)
section
variable {σ : Hp} {r : Nat} {Q : Option AV → Hp → Prop}
theorem m_namesakes (d : Nat) {hs : List Hd} {w : List Nat} (hr : r < 12) (hlen : hs.length < 100) (ha : All hs (HedM σ r hs)) (hw : gName w) (hrow : RowA (hI σ 245 0) (12 * (100 * r + hs.length)) w) : EI (d + 1) 153 [vr 233 0, vi (nI r), vi (nI hs.length)] σ (nI (cntN w hs)) σ := by
  refine EI_of mt_153 (Nat.le_of_ble_eq_true rfl) fun Q hq => ?_
  have wl := gName_len hw
  -- one heading compared
  have inner : ∀ (k n : Nat) (x : Hd), k < hs.length → HedM σ r hs k x → (∀ res : Bool, (res = true ↔ x.2.2.1.1 = w) → Sat true (d + 1) 153 σ.1 Q 108 [some (vr 233 0), some (vi (nI r)), some (vi (nI hs.length)), some (vi (nI (12 * (100 * r + hs.length)))), some (vi (nI n)), some (vi (nI k)), some (vi (nI (12 * (100 * r + k)))), some (vi (bI res)), none] [] σ) → ∀ m i (b : Bool), i + m = w.length → (b = true ↔ (x.2.2.1.1.length = w.length ∧ ∀ j, j < i → x.2.2.1.1.getD j 0 = w.getD j 0)) → Sat true (d + 1) 153 σ.1 Q 57 [some (vr 233 0), some (vi (nI r)), some (vi (nI hs.length)), some (vi (nI (12 * (100 * r + hs.length)))), some (vi (nI n)), some (vi (nI k)), some (vi (nI (12 * (100 * r + k)))), some (vi (bI b)), some (vi (nI (i + 1)))] [] σ := by
    intro k n x hk hx kq m
    have gx := gName_len hx.2.2.2.2.1.1
    induction m with
    | zero =>
      intro i b hi hb
      have fin := kq b (hb.trans ⟨fun q => getD_ext q.1 fun j hj => q.2 j (by omega), fun q => by rw [q]; exact ⟨rfl, fun _ _ => rfl⟩⟩)
      refine wp_ok (cut := [12, 57, 108]) ma_153 rfl 26 _ _ _ _ ?_
      show (vp_in (nI (12 * (100 * r + hs.length))) 20448 ∧ (((hI σ 245 0 ((nI (12 * (100 * r + hs.length))).toNatClampNeg)) < (nI (i + 1)) → Sat true (d + 1) 153 σ.1 Q 108 [some (vr 233 0), some (vi (nI r)), some (vi (nI hs.length)), some (vi (nI (12 * (100 * r + hs.length)))), some (vi (nI n)), some (vi (nI k)), some (vi (nI (12 * (100 * r + k)))), some (vi (bI b)), some (vi (nI (i + 1)))] [] σ) ∧ (¬ (hI σ 245 0 ((nI (12 * (100 * r + hs.length))).toNatClampNeg)) < (nI (i + 1)) → (((bI b) = 0 → Sat true (d + 1) 153 σ.1 Q 108 [some (vr 233 0), some (vi (nI r)), some (vi (nI hs.length)), some (vi (nI (12 * (100 * r + hs.length)))), some (vi (nI n)), some (vi (nI k)), some (vi (nI (12 * (100 * r + k)))), some (vi (bI b)), some (vi (nI (i + 1)))] [] σ) ∧ (¬ (bI b) = 0 → (vp_in ((nI (12 * (100 * r + k))) + (nI (i + 1))) 20448 ∧ (vp_in ((nI (12 * (100 * r + hs.length))) + (nI (i + 1))) 20448 ∧ ((¬ (hI σ 245 0 (((nI (12 * (100 * r + k))) + (nI (i + 1))).toNatClampNeg)) = (hI σ 245 0 (((nI (12 * (100 * r + hs.length))) + (nI (i + 1))).toNatClampNeg)) → Sat true (d + 1) 153 σ.1 Q 57 [some (vr 233 0), some (vi (nI r)), some (vi (nI hs.length)), some (vi (nI (12 * (100 * r + hs.length)))), some (vi (nI n)), some (vi (nI k)), some (vi (nI (12 * (100 * r + k)))), some (vi (nI 0)), some (vi ((nI (i + 1)) + nI 1))] [] σ) ∧ ((hI σ 245 0 (((nI (12 * (100 * r + k))) + (nI (i + 1))).toNatClampNeg)) = (hI σ 245 0 (((nI (12 * (100 * r + hs.length))) + (nI (i + 1))).toNatClampNeg)) → Sat true (d + 1) 153 σ.1 Q 57 [some (vr 233 0), some (vi (nI r)), some (vi (nI hs.length)), some (vi (nI (12 * (100 * r + hs.length)))), some (vi (nI n)), some (vi (nI k)), some (vi (nI (12 * (100 * r + k)))), some (vi (nI 1)), some (vi ((nI (i + 1)) + nI 1))] [] σ)))))))))
      rw [ix (by omega), hrow.1]
      exact ⟨inb (by omega) (by omega), br_lt (by omega) (by omega) (fun _ => Sat_no 8 fin) (fun g => by omega)⟩
    | succ m ih =>
      intro i b hi hb
      refine wp_ok (cut := [12, 57, 108]) ma_153 rfl 26 _ _ _ _ ?_
      show (vp_in (nI (12 * (100 * r + hs.length))) 20448 ∧ (((hI σ 245 0 ((nI (12 * (100 * r + hs.length))).toNatClampNeg)) < (nI (i + 1)) → Sat true (d + 1) 153 σ.1 Q 108 [some (vr 233 0), some (vi (nI r)), some (vi (nI hs.length)), some (vi (nI (12 * (100 * r + hs.length)))), some (vi (nI n)), some (vi (nI k)), some (vi (nI (12 * (100 * r + k)))), some (vi (bI b)), some (vi (nI (i + 1)))] [] σ) ∧ (¬ (hI σ 245 0 ((nI (12 * (100 * r + hs.length))).toNatClampNeg)) < (nI (i + 1)) → (((bI b) = 0 → Sat true (d + 1) 153 σ.1 Q 108 [some (vr 233 0), some (vi (nI r)), some (vi (nI hs.length)), some (vi (nI (12 * (100 * r + hs.length)))), some (vi (nI n)), some (vi (nI k)), some (vi (nI (12 * (100 * r + k)))), some (vi (bI b)), some (vi (nI (i + 1)))] [] σ) ∧ (¬ (bI b) = 0 → (vp_in ((nI (12 * (100 * r + k))) + (nI (i + 1))) 20448 ∧ (vp_in ((nI (12 * (100 * r + hs.length))) + (nI (i + 1))) 20448 ∧ ((¬ (hI σ 245 0 (((nI (12 * (100 * r + k))) + (nI (i + 1))).toNatClampNeg)) = (hI σ 245 0 (((nI (12 * (100 * r + hs.length))) + (nI (i + 1))).toNatClampNeg)) → Sat true (d + 1) 153 σ.1 Q 57 [some (vr 233 0), some (vi (nI r)), some (vi (nI hs.length)), some (vi (nI (12 * (100 * r + hs.length)))), some (vi (nI n)), some (vi (nI k)), some (vi (nI (12 * (100 * r + k)))), some (vi (nI 0)), some (vi ((nI (i + 1)) + nI 1))] [] σ) ∧ ((hI σ 245 0 (((nI (12 * (100 * r + k))) + (nI (i + 1))).toNatClampNeg)) = (hI σ 245 0 (((nI (12 * (100 * r + hs.length))) + (nI (i + 1))).toNatClampNeg)) → Sat true (d + 1) 153 σ.1 Q 57 [some (vr 233 0), some (vi (nI r)), some (vi (nI hs.length)), some (vi (nI (12 * (100 * r + hs.length)))), some (vi (nI n)), some (vi (nI k)), some (vi (nI (12 * (100 * r + k)))), some (vi (nI 1)), some (vi ((nI (i + 1)) + nI 1))] [] σ)))))))))
      rw [ix (by omega), hrow.1]
      refine ⟨inb (by omega) (by omega), br_lt (by omega) (by omega) (fun g => by omega) (fun _ => brI (fun q => ?_) (fun q => ?_))⟩
      · subst q
        exact Sat_no 8 (kq false ⟨fun q => (by cases q), fun q => hb.mpr (by rw [q]; exact ⟨rfl, fun _ _ => rfl⟩)⟩)
      · subst q
        obtain ⟨b1, b2⟩ := hb.mp rfl
        have e1 : hI σ 245 0 (12 * (100 * r + k) + (i + 1)) = nI (x.2.2.1.1.getD i 0) := by
          have := hx.2.2.1.2 i (by omega)
          unfold txAnc at this
          rw [getD_app (by omega)] at this
          rw [show 12 * (100 * r + k) + (i + 1) = 12 * (100 * r + k) + 1 + i by omega]
          exact this
        have e2 : hI σ 245 0 (12 * (100 * r + hs.length) + (i + 1)) = nI (w.getD i 0) := by
          rw [show 12 * (100 * r + hs.length) + (i + 1) = 12 * (100 * r + hs.length) + 1 + i by omega]
          exact hrow.2 i (by omega)
        have l1 := getD_lt (gName_lt hx.2.2.2.2.1.1) (by omega) i
        have l2 := getD_lt (gName_lt hw) (by omega) i
        rw [addN, addN, addN, ix (by omega), ix (by omega), e1, e2]
        refine ⟨inb (by omega) (by omega), inb (by omega) (by omega), br_ne (by omega) (by omega) (fun g => ih (i + 1) false (by omega) ⟨fun q => (by cases q), fun q => absurd (q.2 i (by omega)) g⟩) (fun g => ih (i + 1) true (by omega) ⟨fun _ => ⟨b1, fun j hj => ?_⟩, fun _ => rfl⟩)⟩
        by_cases q : j = i
        · rw [q]; exact g
        · exact b2 j (by omega)
  have loop : ∀ (b a : List Hd), hs = a ++ b → Sat true (d + 1) 153 σ.1 Q 12 [some (vr 233 0), some (vi (nI r)), some (vi (nI hs.length)), some (vi (nI (12 * (100 * r + hs.length)))), some (vi (nI (cntN w a))), some (vi (nI a.length)), none, none, none] [] σ := by
    intro b
    induction b with
    | nil =>
      intro a ea
      rw [List.append_nil] at ea
      refine wp_ok (cut := [12, 57, 108]) ma_153 rfl 25 _ _ _ _ ?_
      show (((nI hs.length) ≤ (nI a.length) → (Q (some (vi (nI (cntN w a)))) σ ∧ σ.1 = σ.1)) ∧ (¬ (nI hs.length) ≤ (nI a.length) → CalI true d 144 [vi (nI r), vi (nI a.length)] σ σ.1 (fun x2 s1 => (vp_in (((nI 100) * (nI r)) + (nI a.length)) 1200 ∧ (vp_in (nI (12 * (100 * r + hs.length))) 20448 ∧ ((¬ (hI s1 246 0 ((((nI 100) * (nI r)) + (nI a.length)).toNatClampNeg)) = (hI s1 245 0 ((nI (12 * (100 * r + hs.length))).toNatClampNeg)) → Sat true (d + 1) 153 σ.1 Q 57 [some (vr 233 0), some (vi (nI r)), some (vi (nI hs.length)), some (vi (nI (12 * (100 * r + hs.length)))), some (vi (nI (cntN w a))), some (vi (nI a.length)), some (vi x2), some (vi (nI 0)), some (vi (nI 1))] [] s1) ∧ ((hI s1 246 0 ((((nI 100) * (nI r)) + (nI a.length)).toNatClampNeg)) = (hI s1 245 0 ((nI (12 * (100 * r + hs.length))).toNatClampNeg)) → Sat true (d + 1) 153 σ.1 Q 57 [some (vr 233 0), some (vi (nI r)), some (vi (nI hs.length)), some (vi (nI (12 * (100 * r + hs.length)))), some (vi (nI (cntN w a))), some (vi (nI a.length)), some (vi x2), some (vi (nI 1)), some (vi (nI 1))] [] s1)))))))
      rw [← ea]
      exact ⟨fun _ => ⟨hq, rfl⟩, fun g => absurd (Int32.le_refl _) g⟩
    | cons x b ih =>
      intro a ea
      have hx : HedM σ r hs a.length x := ha a.length x (by rw [ea, List.getElem?_append_right (Nat.le_refl _), Nat.sub_self]; rfl)
      have hal : a.length < hs.length := by rw [ea, List.length_append, List.length_cons]; omega
      have nx := ih (a ++ [x]) (by rw [ea, List.append_assoc]; rfl)
      have gx := gName_len hx.2.2.2.2.1.1
      have kq : ∀ res : Bool, (res = true ↔ x.2.2.1.1 = w) → Sat true (d + 1) 153 σ.1 Q 108 [some (vr 233 0), some (vi (nI r)), some (vi (nI hs.length)), some (vi (nI (12 * (100 * r + hs.length)))), some (vi (nI (cntN w a))), some (vi (nI a.length)), some (vi (nI (12 * (100 * r + a.length)))), some (vi (bI res)), none] [] σ := by
        intro res hres
        rw [cntN_sn, List.length_append] at nx
        refine wp_ok (cut := [12, 57, 108]) ma_153 rfl 9 _ _ _ _ ?_
        show (((bI res) = 0 → Sat true (d + 1) 153 σ.1 Q 12 [some (vr 233 0), some (vi (nI r)), some (vi (nI hs.length)), some (vi (nI (12 * (100 * r + hs.length)))), some (vi ((nI (cntN w a)) + (nI 0))), some (vi ((nI a.length) + nI 1)), some (vi (nI (12 * (100 * r + a.length)))), some (vi (bI res)), none] [] σ) ∧ (¬ (bI res) = 0 → Sat true (d + 1) 153 σ.1 Q 12 [some (vr 233 0), some (vi (nI r)), some (vi (nI hs.length)), some (vi (nI (12 * (100 * r + hs.length)))), some (vi ((nI (cntN w a)) + (nI 1))), some (vi ((nI a.length) + nI 1)), some (vi (nI (12 * (100 * r + a.length)))), some (vi (bI res)), none] [] σ))
        rw [addN, addN, addN]
        refine brI (fun q => ?_) (fun q => ?_)
        · rw [if_neg (fun g => by rw [hres.mpr g] at q; cases q)] at nx
          exact Sat_no 6 (Sat_no 7 nx)
        · rw [if_pos (hres.mp q)] at nx
          exact Sat_no 6 (Sat_no 7 nx)
      refine wp_ok (cut := [12, 57, 108]) ma_153 rfl 25 _ _ _ _ ?_
      show (((nI hs.length) ≤ (nI a.length) → (Q (some (vi (nI (cntN w a)))) σ ∧ σ.1 = σ.1)) ∧ (¬ (nI hs.length) ≤ (nI a.length) → CalI true d 144 [vi (nI r), vi (nI a.length)] σ σ.1 (fun x2 s1 => (vp_in (((nI 100) * (nI r)) + (nI a.length)) 1200 ∧ (vp_in (nI (12 * (100 * r + hs.length))) 20448 ∧ ((¬ (hI s1 246 0 ((((nI 100) * (nI r)) + (nI a.length)).toNatClampNeg)) = (hI s1 245 0 ((nI (12 * (100 * r + hs.length))).toNatClampNeg)) → Sat true (d + 1) 153 σ.1 Q 57 [some (vr 233 0), some (vi (nI r)), some (vi (nI hs.length)), some (vi (nI (12 * (100 * r + hs.length)))), some (vi (nI (cntN w a))), some (vi (nI a.length)), some (vi x2), some (vi (nI 0)), some (vi (nI 1))] [] s1) ∧ ((hI s1 246 0 ((((nI 100) * (nI r)) + (nI a.length)).toNatClampNeg)) = (hI s1 245 0 ((nI (12 * (100 * r + hs.length))).toNatClampNeg)) → Sat true (d + 1) 153 σ.1 Q 57 [some (vr 233 0), some (vi (nI r)), some (vi (nI hs.length)), some (vi (nI (12 * (100 * r + hs.length)))), some (vi (nI (cntN w a))), some (vi (nI a.length)), some (vi x2), some (vi (nI 1)), some (vi (nI 1))] [] s1)))))))
      refine br_le (by omega) (by omega) (fun g => by omega) (fun _ => cal_i (m_anchorAt d σ r a.length) rfl ?_)
      rw [mulN, addN, ix (by omega), ix (by omega), hx.2.2.2.1, hrow.1]
      refine ⟨inb (by omega) (by omega), inb (by omega) (by omega), br_ne (by omega) (by omega) (fun g => inner a.length _ x hal hx kq w.length 0 false (by omega) ⟨fun q => (by cases q), fun q => absurd q.1 g⟩) (fun g => inner a.length _ x hal hx kq w.length 0 true (by omega) ⟨fun _ => ⟨g, fun j hj => absurd hj (Nat.not_lt_zero _)⟩, fun _ => rfl⟩)⟩
  refine wp_ok (cut := [12]) ma_153 rfl 8 _ _ _ _ ?_
  show CalI true d 144 [vi (nI r), vi (nI hs.length)] σ σ.1 (fun x2 s1 => Sat true (d + 1) 153 σ.1 Q 12 [some (vr 233 0), some (vi (nI r)), some (vi (nI hs.length)), some (vi x2), some (vi (nI 0)), some (vi (nI 0)), none, none, none] [] s1)
  exact cal_i (m_anchorAt d σ r hs.length) rfl (loop hs [] rfl)
end
