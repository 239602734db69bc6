/-! the model: keepHeading -/
def SHd (r f k : Nat) : Prop := (f = 241 ∧ k = r) ∨ ((f = 242 ∨ f = 243 ∨ f = 246) ∧ 100 * r ≤ k ∧ k < 100 * r + 100) ∨ (f = 244 ∧ 1000 * r ≤ k ∧ k < 1000 * r + 1000) ∨ (f = 245 ∧ 1200 * r ≤ k ∧ k < 1200 * r + 1200) ∨ f = 260 ∨ (f = 249 ∧ 54 * r ≤ k ∧ k < 54 * r + 54) ∨ (f = 233 ∧ k = 33)
def soF (u : Nat → Int32) (b : Nat) (s : Option Nat) (k : Nat) : Nat → Int32 := match s with
  | none => u
  | some j => upd u (b + j) (nI k)
def isO (s : Option Nat) : Nat := match s with
  | none => 0
  | some _ => 1
def HAddM (σ h : Hp) (r : Nat) (hs : List Hd) (x : Hd) (o : Nat) : Prop := hI h 241 0 r = nI (hs.length + 1) ∧ All (hs ++ [x]) (HedM h r (hs ++ [x])) ∧ (∀ k, k < 64 → hI h 260 0 k = nI (ctF (hs ++ [x]) k)) ∧ hI h 249 0 = soF (hI σ 249 0) (54 * r) x.2.2.2 hs.length ∧ hI h 233 0 33 = nI (o + isO x.2.2.2) ∧ FrM (SHd r) σ h
abbrev khL (r p a b add hl v : Nat) (x9 x10 x11 : Option AV) : List (Option AV) := [some (vr 233 0), some (vi (nI r)), some (vi (nI p)), some (vi (nI a)), some (vi (nI b)), some (vi (nI add)), some (vi (nI hl)), some (vi (nI (100 * r + hl))), some (vi (nI v)), x9, x10, x11]
theorem HedM_cong {h h' : Hp} {r j : Nat} {hs : List Hd} {x : Hd} (a : hI h' 242 0 (100 * r + j) = hI h 242 0 (100 * r + j)) (b : hI h' 243 0 (100 * r + j) = hI h 243 0 (100 * r + j)) (c : ∀ k, 12 * (100 * r + j) ≤ k → k < 12 * (100 * r + j) + 12 → hI h' 245 0 k = hI h 245 0 k) (e : hI h' 246 0 (100 * r + j) = hI h 246 0 (100 * r + j)) (f : ∀ k, k < 10 → hI h' 244 0 (10 * (100 * r + j) + k) = hI h 244 0 (10 * (100 * r + j) + k)) (q : HedM h r hs j x) : HedM h' r hs j x := ⟨a.trans q.1, b.trans q.2.1, RowA_cong q.2.2.1 c, e.trans q.2.2.2.1, q.2.2.2.2.1, fun k hk => (f k hk).trans (q.2.2.2.2.2 k hk)⟩
theorem arrI_comm (σ : Hp) {f f2 : Nat} (n : f ≠ f2) (p p2 k : Nat) (g : Nat → Int32) (x : Int32) : setI (arrI σ f p g) f2 p2 k x = arrI (setI σ f2 p2 k x) f p g := by
  unfold setI arrI
  refine Prod.ext rfl (Prod.ext ?_ rfl)
  funext f' p' k'
  show (if f' = f2 ∧ p' = p2 ∧ k' = k then x else if f' = f ∧ p' = p then g k' else σ.2.1 f' p' k') = if f' = f ∧ p' = p then g k' else if f' = f2 ∧ p' = p2 ∧ k' = k then x else σ.2.1 f' p' k'
  by_cases a : f' = f2 ∧ p' = p2 ∧ k' = k
  · rw [if_pos a, if_neg (fun q => n (q.1.symm.trans a.1)), if_pos a]
  · rw [if_neg a, if_neg a]
section
variable {σ : Hp} {r p a b add v : Nat} {hs : List Hd} {w : List Nat} {Q : Option AV → Hp → Prop} {d : Nat}
set_option maxRecDepth 6000 in
theorem s_kh243 (hr : r < 12) (hlen : hs.length < 100) {x : Hd} {m o : Nat} (hm : m < 100) (ho : o < 54) (hsx : (m = 1 → x.2.2.2 = some o) ∧ (m ≠ 1 → x.2.2.2 = none)) {h : Hp} (k1 : hI h 241 0 r = nI hs.length) (k2 : All (hs ++ [x]) (HedM h r (hs ++ [x]))) (k3 : ∀ k, k < 64 → hI h 260 0 k = nI (ctF (hs ++ [x]) k)) (k4 : hI h 249 0 = hI σ 249 0) (k5 : hI h 233 0 33 = nI o) (k6 : hI h 233 0 30 = nI m) (k7 : FrM (SHd r) σ h) (hq : ∀ h, HAddM σ h r hs x o → Q none h) (L t n : Int32) : Sat true (d + 2) 155 σ.1 Q 243 (khL r p a b add hs.length v (some (vi L)) (some (vi t)) (some (vi n))) [] h := by
  refine wp_ok (cut := []) ma_155 rfl 29 _ _ _ _ ?_
  show ((¬ (hI h 233 0 30) = (nI 1) → (vp_in (nI r) 12 ∧ (vp_in (nI r) 12 ∧ (Q none (setI h 241 0 ((nI r).toNatClampNeg) ((hI h 241 0 ((nI r).toNatClampNeg)) + (nI 1))) ∧ h.1 = σ.1)))) ∧ ((hI h 233 0 30) = (nI 1) → (vp_in (((nI 54) * (nI r)) + (hI h 233 0 33)) 648 ∧ (vp_in (nI r) 12 ∧ (vp_in (nI r) 12 ∧ (Q none (setI (setI (setI h 249 0 ((((nI 54) * (nI r)) + (hI h 233 0 33)).toNatClampNeg) (nI hs.length)) 233 0 33 ((hI h 233 0 33) + (nI 1))) 241 0 ((nI r).toNatClampNeg) ((hI h 241 0 ((nI r).toNatClampNeg)) + (nI 1))) ∧ h.1 = σ.1))))))
  have i1 : vp_in (nI r) 12 := inb (by omega) (by omega)
  rw [k6, k5, mulN, addN, ix (by omega), ix (by omega), k1, addN, addN]
  refine br_ne (by omega) (by omega) (fun g => ⟨i1, i1, hq _ ?_, k7.1⟩) (fun g => ⟨inb (by omega) (by omega), i1, i1, hq _ ?_, k7.1⟩)
  · have e := hsx.2 g
    unfold HAddM
    rw [e]
    refine ⟨by simp (disch := omega) only [hI_s, hI_k, hI_f, hI_sL, hL_sI, hL_s, hL_k, hL_f], All_mo k2 fun j y _ q => HedM_cong (by simp (disch := omega) only [hI_s, hI_k, hI_f, hI_sL, hL_sI, hL_s, hL_k, hL_f]) (by simp (disch := omega) only [hI_s, hI_k, hI_f, hI_sL, hL_sI, hL_s, hL_k, hL_f]) (fun k _ _ => by simp (disch := omega) only [hI_s, hI_k, hI_f, hI_sL, hL_sI, hL_s, hL_k, hL_f]) (by simp (disch := omega) only [hI_s, hI_k, hI_f, hI_sL, hL_sI, hL_s, hL_k, hL_f]) (fun k _ => by simp (disch := omega) only [hI_s, hI_k, hI_f, hI_sL, hL_sI, hL_s, hL_k, hL_f]) q, fun k hk => by simp (disch := omega) only [hI_s, hI_k, hI_f, hI_sL, hL_sI, hL_s, hL_k, hL_f]; exact k3 k hk, by simp (disch := omega) only [hI_s, hI_k, hI_f, hI_sL, hL_sI, hL_s, hL_k, hL_f]; exact k4, by simp (disch := omega) only [hI_s, hI_k, hI_f, hI_sL, hL_sI, hL_s, hL_k, hL_f]; exact k5, k7.sI (f := 241) (Or.inl ⟨rfl, rfl⟩) _⟩
  · have e := hsx.1 g
    unfold HAddM
    rw [e]
    refine ⟨by simp (disch := omega) only [hI_s, hI_k, hI_f, hI_sL, hL_sI, hL_s, hL_k, hL_f], All_mo k2 fun j y _ q => HedM_cong (by simp (disch := omega) only [hI_s, hI_k, hI_f, hI_sL, hL_sI, hL_s, hL_k, hL_f]) (by simp (disch := omega) only [hI_s, hI_k, hI_f, hI_sL, hL_sI, hL_s, hL_k, hL_f]) (fun k _ _ => by simp (disch := omega) only [hI_s, hI_k, hI_f, hI_sL, hL_sI, hL_s, hL_k, hL_f]) (by simp (disch := omega) only [hI_s, hI_k, hI_f, hI_sL, hL_sI, hL_s, hL_k, hL_f]) (fun k _ => by simp (disch := omega) only [hI_s, hI_k, hI_f, hI_sL, hL_sI, hL_s, hL_k, hL_f]) q, fun k hk => by simp (disch := omega) only [hI_s, hI_k, hI_f, hI_sL, hL_sI, hL_s, hL_k, hL_f]; exact k3 k hk, ?_, by simp (disch := omega) only [hI_s, hI_k, hI_f, hI_sL, hL_sI, hL_s, hL_k, hL_f]; rfl, ((k7.sI (f := 249) (Or.inr (Or.inr (Or.inr (Or.inr (Or.inr (Or.inl ⟨rfl, by omega, by omega⟩)))))) _).sI (f := 233) (Or.inr (Or.inr (Or.inr (Or.inr (Or.inr (Or.inr ⟨rfl, rfl⟩)))))) _).sI (f := 241) (Or.inl ⟨rfl, rfl⟩) _⟩
    funext k
    show _ = upd (hI σ 249 0) (54 * r + o) (nI hs.length) k
    unfold upd
    by_cases q : k = 54 * r + o
    · rw [if_pos q, q]
      simp (disch := omega) only [hI_s, hI_k, hI_f, hI_sL, hL_sI, hL_s, hL_k, hL_f]
    · rw [if_neg q]
      simp (disch := omega) only [hI_s, hI_k, hI_f, hI_sL, hL_sI, hL_s, hL_k, hL_f]
      rw [k4]
set_option maxRecDepth 6000 in
theorem s_kh195 {t n : Nat} {u : Nat → Int32} {h : Hp} (hB : h.1 = σ.1) (ht : t + 12 ≤ 20448) (hw : w.length ≤ 8) (hn : n ≤ 99) (L : Int32) {hl : Nat} (k : Sat true (d + 2) 155 σ.1 Q 243 (khL r p a b add hl v (some (vi L)) (some (vi (nI t))) (some (vi (nI n)))) [] (arrI h 245 0 (rowA u t (txAnc (w, n))))) : Sat true (d + 2) 155 σ.1 Q 195 (khL r p a b add hl v (some (vi L)) (some (vi (nI t))) (some (vi (nI n)))) [] (arrI h 245 0 (rowA u t w)) := by
  refine wp_ok (cut := [243]) ma_155 rfl 25 _ _ _ _ ?_
  show (((nI n) ≤ 0 → Sat true (d + 2) 155 σ.1 Q 243 [some (vr 233 0), some (vi (nI r)), some (vi (nI p)), some (vi (nI a)), some (vi (nI b)), some (vi (nI add)), some (vi (nI hl)), some (vi (nI (100 * r + hl))), some (vi (nI v)), some (vi L), some (vi (nI t)), some (vi (nI n))] [] (arrI h 245 0 (rowA u t w))) ∧ (¬ (nI n) ≤ 0 → CalV true (d + 1) 154 [vr 233 0, vi (nI t), vi (nI 45)] (arrI h 245 0 (rowA u t w)) σ.1 (fun s1 => (((nI n) ≤ (nI 9) → (¬ (nI 10) = 0 ∧ CalV true (d + 1) 154 [vr 233 0, vi (nI t), vi ((nI 48) + ((nI n) - (nI n) / (nI 10) * (nI 10)))] s1 σ.1 (fun s2 => Sat true (d + 2) 155 σ.1 Q 243 [some (vr 233 0), some (vi (nI r)), some (vi (nI p)), some (vi (nI a)), some (vi (nI b)), some (vi (nI add)), some (vi (nI hl)), some (vi (nI (100 * r + hl))), some (vi (nI v)), some (vi L), some (vi (nI t)), some (vi (nI n))] [] s2))) ∧ (¬ (nI n) ≤ (nI 9) → (¬ (nI 10) = 0 ∧ CalV true (d + 1) 154 [vr 233 0, vi (nI t), vi ((nI 48) + ((nI n) / (nI 10)))] s1 σ.1 (fun s3 => (¬ (nI 10) = 0 ∧ CalV true (d + 1) 154 [vr 233 0, vi (nI t), vi ((nI 48) + ((nI n) - (nI n) / (nI 10) * (nI 10)))] s3 σ.1 (fun s4 => Sat true (d + 2) 155 σ.1 Q 243 [some (vr 233 0), some (vi (nI r)), some (vi (nI p)), some (vi (nI a)), some (vi (nI b)), some (vi (nI add)), some (vi (nI hl)), some (vi (nI (100 * r + hl))), some (vi (nI v)), some (vi L), some (vi (nI t)), some (vi (nI n))] [] s4)))))))))
  have h10 : ¬ nI 10 = 0 := by decide
  refine br_le (b := 0) (by omega) (by omega) (fun g => ?_) (fun g => ?_)
  · have e : n = 0 := by omega
    subst e
    have e2 : txAnc (w, 0) = w := List.append_nil w
    rw [e2] at k
    exact k
  · rw [rem10 (by omega), div10 (by omega), addN, addN]
    refine cal_v (m_appendSign (d + 1) h ht (by omega)) hB (br_le (by omega) (by omega) (fun g2 => ⟨h10, ?_⟩) (fun g2 => ⟨h10, ?_⟩))
    · refine cal_v (m_appendSign (d + 1) h ht (by rw [List.length_append]; show w.length + 1 ≤ 10; omega)) hB ?_
      have e2 : txAnc (w, n) = w ++ [45] ++ [48 + n % 10] := by
        show w ++ txNum n = _
        unfold txNum
        rw [if_neg (by omega), if_pos (by omega), List.append_assoc, Nat.mod_eq_of_lt (by omega)]
        rfl
      rw [e2] at k
      exact k
    · refine cal_v (m_appendSign (d + 1) h ht (by rw [List.length_append]; show w.length + 1 ≤ 10; omega)) hB ⟨h10, ?_⟩
      refine cal_v (m_appendSign (d + 1) h ht (by rw [List.length_append, List.length_append]; show w.length + 1 + 1 ≤ 10; omega)) hB ?_
      have e2 : txAnc (w, n) = w ++ [45] ++ [48 + n / 10] ++ [48 + n % 10] := by
        show w ++ txNum n = _
        unfold txNum
        rw [if_neg (by omega), if_neg (by omega), List.append_assoc, List.append_assoc]
        rfl
      rw [e2] at k
      exact k
set_option maxRecDepth 6000 in
theorem s_kh151 (hr : r < 12) (hp : p < 12) (hlen : hs.length < 100) (hw : gName w) (hb : b = a + v + w.length) (hb160 : b ≤ 160) (htx : TxM σ p (a + v) w) {L m o : Nat} {s : Option Nat} (hm : m < 100) (ho : o < 54) (hsx : (m = 1 → s = some o) ∧ (m ≠ 1 → s = none)) {h : Hp} (k1 : hI h 241 0 r = nI hs.length) (k2 : All hs (HedM h r hs)) (k2a : hI h 242 0 (100 * r + hs.length) = nI L) (k2b : hI h 243 0 (100 * r + hs.length) = nI p) (k2c : ∀ k, k < 10 → hI h 244 0 (10 * (100 * r + hs.length) + k) = nI (if k + 1 ≤ L then ctS (ctF hs) L (k + 1) else 0)) (k3 : ∀ k, k < 64 → hI h 260 0 k = nI (ctS (ctF hs) L k)) (k4 : hI h 249 0 = hI σ 249 0) (k5 : hI h 233 0 33 = nI o) (k6 : hI h 233 0 30 = nI m) (k7 : FrM (SHd r) σ h) (hq : ∀ h, HAddM σ h r hs (L, p, (w, cntN w hs), s) o → Q none h) : Sat true (d + 2) 155 σ.1 Q 151 (khL r p a b add hs.length v (some (vi (nI L))) none none) [] h := by
  have wl := gName_len hw
  have hT : hI h 235 0 = hI σ 235 0 := k7.fam (fun k => by unfold SHd; omega) 0
  have ka := m_keepAnchor d h (t := 12 * (100 * r + hs.length)) (a := a + v) (b := b) (w := w) hp (by omega) (by omega) hb hb160 (by unfold TxM; rw [hT]; exact htx)
  have cl := cntN_le w hs
  refine wp_ok (cut := [195]) ma_155 rfl 25 _ _ _ _ ?_
  show CalI true (d + 1) 144 [vi (nI r), vi (nI hs.length)] h σ.1 (fun x2 s1 => CalV true (d + 1) 147 [vr 233 0, vi x2, vi (nI p), vi ((nI a) + (nI v)), vi (nI b)] s1 σ.1 (fun s3 => (vp_in x2 20448 ∧ (vp_in (nI (100 * r + hs.length)) 1200 ∧ CalI true (d + 1) 153 [vr 233 0, vi (nI r), vi (nI hs.length)] (setI s3 246 0 ((nI (100 * r + hs.length)).toNatClampNeg) (hI s3 245 0 x2.toNatClampNeg)) σ.1 (fun x5 s4 => Sat true (d + 2) 155 σ.1 Q 195 [some (vr 233 0), some (vi (nI r)), some (vi (nI p)), some (vi (nI a)), some (vi (nI b)), some (vi (nI add)), some (vi (nI hs.length)), some (vi (nI (100 * r + hs.length))), some (vi (nI v)), some (vi (nI L)), some (vi x2), some (vi x5)] [] s4)))))
  refine cal_i (m_anchorAt (d + 1) h r hs.length) k7.1 ?_
  rw [addN]
  refine cal_v ka k7.1 ⟨inb (by omega) (by omega), inb (by omega) (by omega), ?_⟩
  rw [ix (by omega), ix (by omega), hI_a, (rowA_row (hI h 245 0) (12 * (100 * r + hs.length)) w).1]
  have out : ∀ (w2 : List Nat) {j k : Nat}, j < hs.length → 12 * (100 * r + j) ≤ k → k < 12 * (100 * r + j) + 12 → rowA (hI h 245 0) (12 * (100 * r + hs.length)) w2 k = hI h 245 0 k := fun w2 j k hj a1 a2 => rowA_out _ _ _ (by omega)
  have cg : ∀ (w2 : List Nat) (j : Nat) (y : Hd), j < hs.length → HedM h r hs j y → HedM (setI (arrI h 245 0 (rowA (hI h 245 0) (12 * (100 * r + hs.length)) w2)) 246 0 (100 * r + hs.length) (nI w.length)) r hs j y := by
    intro w2 j y hj q
    refine HedM_cong (h := h) ?_ ?_ (fun k a1 a2 => ?_) ?_ (fun k _ => ?_) q
    · simp (disch := omega) only [hI_s, hI_k, hI_f, hI_af]
    · simp (disch := omega) only [hI_s, hI_k, hI_f, hI_af]
    · simp (disch := omega) only [hI_s, hI_k, hI_f, hI_af, hI_a]
      exact out w2 hj a1 a2
    · simp (disch := omega) only [hI_s, hI_k, hI_f, hI_af]
    · simp (disch := omega) only [hI_s, hI_k, hI_f, hI_af]
  have ns := m_namesakes (σ := setI (arrI h 245 0 (rowA (hI h 245 0) (12 * (100 * r + hs.length)) w)) 246 0 (100 * r + hs.length) (nI w.length)) d hr hlen (All_mo k2 (cg w)) hw (by
    simp (disch := omega) only [hI_s, hI_k, hI_f, hI_af, hI_a]
    exact rowA_row _ _ _)
  refine cal_i ns k7.1 ?_
  have sw : ∀ w2, setI (arrI h 245 0 (rowA (hI h 245 0) (12 * (100 * r + hs.length)) w2)) 246 0 (100 * r + hs.length) (nI w.length) = arrI (setI h 246 0 (100 * r + hs.length) (nI w.length)) 245 0 (rowA (hI h 245 0) (12 * (100 * r + hs.length)) w2) := by
    intro w2
    exact arrI_comm h (by decide) 0 0 _ _ _
  rw [sw]
  refine s_kh195 (h := setI h 246 0 (100 * r + hs.length) (nI w.length)) (t := 12 * (100 * r + hs.length)) (n := cntN w hs) (w := w) k7.1 (by omega) (by omega) (by omega) _ ?_
  rw [← sw]
  refine s_kh243 hr hlen (x := (L, p, (w, cntN w hs), s)) hm ho hsx ?_ ?_ ?_ ?_ ?_ ?_ ?_ hq _ _ _
  · simp (disch := omega) only [hI_s, hI_k, hI_f, hI_af]
    exact k1
  · refine All_snoc k2 (fun j y hj q => ?_) ?_
    · have := cg (txAnc (w, cntN w hs)) j y hj q
      refine ⟨this.1, this.2.1, this.2.2.1, this.2.2.2.1, this.2.2.2.2.1, fun k hk => ?_⟩
      rw [this.2.2.2.2.2 k hk, List.take_append_of_le_length (by omega)]
    · refine ⟨?_, ?_, ?_, ?_, ⟨hw, by show cntN w hs ≤ 99; omega⟩, fun k hk => ?_⟩
      · simp (disch := omega) only [hI_s, hI_k, hI_f, hI_af]
        exact k2a
      · simp (disch := omega) only [hI_s, hI_k, hI_f, hI_af]
        exact k2b
      · simp (disch := omega) only [hI_s, hI_k, hI_f, hI_af, hI_a]
        exact rowA_row _ _ _
      · simp (disch := omega) only [hI_s, hI_k, hI_f, hI_af]
      · simp (disch := omega) only [hI_s, hI_k, hI_f, hI_af]
        rw [List.take_of_length_le (by rw [List.length_append]; exact Nat.le_refl _), ctF_sn]
        exact k2c k hk
  · intro k hk
    simp (disch := omega) only [hI_s, hI_k, hI_f, hI_af]
    rw [ctF_sn]
    exact k3 k hk
  · simp (disch := omega) only [hI_s, hI_k, hI_f, hI_af]
    exact k4
  · simp (disch := omega) only [hI_s, hI_k, hI_f, hI_af]
    exact k5
  · simp (disch := omega) only [hI_s, hI_k, hI_f, hI_af]
    exact k6
  · refine FrM.sI (FrM.aI k7 fun k hk => rowA_out _ _ _ ?_) (f := 246) (Or.inr (Or.inl ⟨by omega, by omega, by omega⟩)) _
    unfold SHd at hk
    omega
end
