/-! the model: frames by index; signs and lines of a page -/
def FrM (S : Nat → Nat → Prop) (σ h : Hp) : Prop := h.1 = σ.1 ∧ hL h = hL σ ∧ hR h = hR σ ∧ ∀ f p k, ¬ (p = 0 ∧ S f k) → hI h f p k = hI σ f p k
theorem FrM.rfl' (S : Nat → Nat → Prop) (σ : Hp) : FrM S σ σ := ⟨rfl, rfl, rfl, fun _ _ _ _ => rfl⟩
theorem FrM.tr {S : Nat → Nat → Prop} {σ h k : Hp} (a : FrM S σ h) (b : FrM S h k) : FrM S σ k := ⟨b.1.trans a.1, b.2.1.trans a.2.1, b.2.2.1.trans a.2.2.1, fun f p j n => (b.2.2.2 f p j n).trans (a.2.2.2 f p j n)⟩
theorem FrM.mo {S T : Nat → Nat → Prop} {σ h : Hp} (a : FrM S σ h) (m : ∀ f k, S f k → T f k) : FrM T σ h := ⟨a.1, a.2.1, a.2.2.1, fun f p k n => a.2.2.2 f p k fun q => n ⟨q.1, m f k q.2⟩⟩
theorem FrM.sI {S : Nat → Nat → Prop} {σ h : Hp} (a : FrM S σ h) {f k : Nat} (s : S f k) (x : Int32) : FrM S σ (setI h f 0 k x) := by
  refine a.tr ⟨rfl, rfl, rfl, fun f' p' k' n => ?_⟩
  show (if f' = f ∧ p' = 0 ∧ k' = k then x else hI h f' p' k') = _
  rw [if_neg (fun q => n ⟨q.2.1, by rw [q.1, q.2.2]; exact s⟩)]
theorem FrM.aI {S : Nat → Nat → Prop} {σ h : Hp} (a : FrM S σ h) {f : Nat} {g : Nat → Int32} (s : ∀ k, ¬ S f k → g k = hI h f 0 k) : FrM S σ (arrI h f 0 g) := by
  refine a.tr ⟨rfl, rfl, rfl, fun f' p' k' n => ?_⟩
  show (if f' = f ∧ p' = 0 then g k' else hI h f' p' k') = _
  by_cases q : f' = f ∧ p' = 0
  · obtain ⟨rfl, rfl⟩ := q
    rw [if_pos ⟨rfl, rfl⟩]
    exact s k' fun w => n ⟨rfl, w⟩
  · rw [if_neg q]
theorem FrM.fam {S : Nat → Nat → Prop} {σ h : Hp} (a : FrM S σ h) {f : Nat} (n : ∀ k, ¬ S f k) (p : Nat) : hI h f p = hI σ f p := funext fun k => a.2.2.2 f p k fun q => n k q.2
theorem m_size (d : Nat) (σ : Hp) {p : Nat} (hp : p < 12) : EI d 110 [vr 233 0, vi (nI p)] σ (hI σ 235 0 (1920 + p)) σ := by
  refine EI_of mt_110 (Nat.le_of_ble_eq_true rfl) fun Q hq => ?_
  refine wp_ok (cut := []) ma_110 rfl 7 _ _ _ _ ?_
  show (vp_in ((nI 1920) + (nI p)) 2830 ∧ (Q (some (vi (hI σ 235 0 (((nI 1920) + (nI p)).toNatClampNeg)))) σ ∧ σ.1 = σ.1))
  rw [addN, ix (by omega)]
  exact ⟨inb (by omega) (by omega), hq, rfl⟩
theorem m_hasSource (d : Nat) (σ : Hp) {p : Nat} (hp : p < 12) : EI (d + 1) 111 [vr 233 0, vi (nI p)] σ (bI (decide (0 ≤ hI σ 235 0 (1920 + p)))) σ := by
  refine EI_of mt_111 (Nat.le_of_ble_eq_true rfl) fun Q hq => ?_
  refine wp_ok (cut := []) ma_111 rfl 7 _ _ _ _ ?_
  show CalI true d 110 [vr 233 0, vi (nI p)] σ σ.1 (fun x2 s1 => ((x2 < 0 → (((nI 0) = 0 ∨ (nI 0) = 1) ∧ (Q (some (vi (nI 0))) s1 ∧ s1.1 = σ.1))) ∧ (¬ x2 < 0 → (((nI 1) = 0 ∨ (nI 1) = 1) ∧ (Q (some (vi (nI 1))) s1 ∧ s1.1 = σ.1)))))
  refine cal_i (m_size d σ hp) rfl ⟨fun h => ?_, fun h => ?_⟩
  · rw [decide_eq_false (fun q => Int32.not_lt.mpr q h)] at hq
    exact ⟨Or.inl rfl, hq, rfl⟩
  · rw [decide_eq_true (not_ltI h)] at hq
    exact ⟨Or.inr rfl, hq, rfl⟩
theorem m_sign (d : Nat) (σ : Hp) {p i : Nat} (hi : 160 * p + i < 2830) : EI d 112 [vr 233 0, vi (nI p), vi (nI i)] σ (hI σ 235 0 (160 * p + i)) σ := by
  refine EI_of mt_112 (Nat.le_of_ble_eq_true rfl) fun Q hq => ?_
  refine wp_ok (cut := []) ma_112 rfl 9 _ _ _ _ ?_
  show (vp_in (((nI 160) * (nI p)) + (nI i)) 2830 ∧ (Q (some (vi (hI σ 235 0 ((((nI 160) * (nI p)) + (nI i)).toNatClampNeg)))) σ ∧ σ.1 = σ.1))
  rw [mulN, addN, ix (by omega)]
  exact ⟨inb (by omega) (by omega), hq, rfl⟩
/-- the text of a page in the model -/
def TxM (σ : Hp) (p a : Nat) (w : List Nat) : Prop := Tx (hI σ 235 0) (160 * p + a) w
theorem s_lineEnd (d : Nat) (σ : Hp) {p n : Nat} (hp : p < 12) (hn : n ≤ 160) (hs : hI σ 235 0 (1920 + p) = nI n) (fr : Int32) : ∀ (w : List Nat) (a : Nat), (∀ y ∈ w, y < 128 ∧ y ≠ 59) → TxM σ p a w → a + w.length ≤ n → (a + w.length < n → hI σ 235 0 (160 * p + (a + w.length)) = nI 59) → ∀ Q : Option AV → Hp → Prop, Q (some (vi (nI (a + w.length)))) σ → Sat true (d + 1) 146 σ.1 Q 2 [some (vr 233 0), some (vi (nI p)), some (vi fr), some (vi (nI a))] [] σ := by
  intro w
  induction w with
  | nil =>
    intro a hy ht hx he Q hq
    have hx : a ≤ n := hx
    have he : a < n → hI σ 235 0 (160 * p + a) = nI 59 := he
    refine wp_ok (cut := [2]) ma_146 rfl 13 _ _ _ _ ?_
    show CalI true d 110 [vr 233 0, vi (nI p)] σ σ.1 (fun x2 s1 => ((x2 ≤ (nI a) → (Q (some (vi (nI a))) s1 ∧ s1.1 = σ.1)) ∧ (¬ x2 ≤ (nI a) → CalI true d 112 [vr 233 0, vi (nI p), vi (nI a)] s1 σ.1 (fun x4 s3 => ((x4 = (nI 59) → (Q (some (vi (nI a))) s3 ∧ s3.1 = σ.1)) ∧ (¬ x4 = (nI 59) → Sat true (d + 1) 146 σ.1 Q 2 [some (vr 233 0), some (vi (nI p)), some (vi fr), some (vi ((nI a) + nI 1))] [] s3))))))
    refine cal_i (m_size d σ hp) rfl ?_
    rw [hs]
    refine br_le (by omega) (by omega) (fun _ => ⟨hq, rfl⟩) (fun h => ?_)
    refine cal_i (m_sign d σ (by omega)) rfl ?_
    rw [he h]
    exact ⟨fun _ => ⟨hq, rfl⟩, fun g => absurd rfl g⟩
  | cons y w ih =>
    intro a hy ht hx he Q hq
    obtain ⟨t1, t2⟩ := ht
    have el : a + (y :: w).length = a + 1 + w.length := by rw [List.length_cons]; omega
    rw [el] at hx he hq
    have kq := ih (a + 1) (fun z hz => hy z (List.mem_cons_of_mem _ hz)) (by unfold TxM; rw [← Nat.add_assoc]; exact t2) hx he Q hq
    obtain ⟨y1, y2⟩ := hy y List.mem_cons_self
    refine wp_ok (cut := [2]) ma_146 rfl 13 _ _ _ _ ?_
    show CalI true d 110 [vr 233 0, vi (nI p)] σ σ.1 (fun x2 s1 => ((x2 ≤ (nI a) → (Q (some (vi (nI a))) s1 ∧ s1.1 = σ.1)) ∧ (¬ x2 ≤ (nI a) → CalI true d 112 [vr 233 0, vi (nI p), vi (nI a)] s1 σ.1 (fun x4 s3 => ((x4 = (nI 59) → (Q (some (vi (nI a))) s3 ∧ s3.1 = σ.1)) ∧ (¬ x4 = (nI 59) → Sat true (d + 1) 146 σ.1 Q 2 [some (vr 233 0), some (vi (nI p)), some (vi fr), some (vi ((nI a) + nI 1))] [] s3))))))
    refine cal_i (m_size d σ hp) rfl ?_
    rw [hs]
    refine br_le (by omega) (by omega) (fun h => by omega) (fun h => ?_)
    refine cal_i (m_sign d σ (by omega)) rfl ?_
    rw [t1, addN]
    exact br_eq (by omega) (by omega) (fun g => absurd g y2) (fun _ => kq)
theorem m_lineEnd (d : Nat) (σ : Hp) {p n a : Nat} {w : List Nat} (hp : p < 12) (hn : n ≤ 160) (hs : hI σ 235 0 (1920 + p) = nI n) (hy : ∀ y ∈ w, y < 128 ∧ y ≠ 59) (ht : TxM σ p a w) (hx : a + w.length ≤ n) (he : a + w.length < n → hI σ 235 0 (160 * p + (a + w.length)) = nI 59) : EI (d + 1) 146 [vr 233 0, vi (nI p), vi (nI a)] σ (nI (a + w.length)) σ := by
  refine EI_of mt_146 (Nat.le_of_ble_eq_true rfl) fun Q hq => ?_
  refine wp_ok (cut := [2]) ma_146 rfl 2 _ _ _ _ ?_
  show Sat true (d + 1) 146 σ.1 Q 2 [some (vr 233 0), some (vi (nI p)), some (vi (nI a)), some (vi (nI a))] [] σ
  exact s_lineEnd d σ hp hn hs (nI a) w a hy ht hx he Q hq
/-- a row of 12 put down at t -/
def rowA (u : Nat → Int32) (t : Nat) (w : List Nat) : Nat → Int32 := fun k => if t ≤ k ∧ k < t + 12 then (if k = t then nI w.length else nI (w.getD (k - t - 1) 0)) else u k
theorem rowA_row (u : Nat → Int32) (t : Nat) (w : List Nat) : RowA (rowA u t w) t w := by
  refine ⟨?_, fun k hk => ?_⟩
  · unfold rowA
    rw [if_pos (by omega), if_pos rfl]
  · unfold rowA
    rw [if_pos (by omega), if_neg (by omega), show t + 1 + k - t - 1 = k by omega]
theorem rowA_out (u : Nat → Int32) (t : Nat) (w : List Nat) {k : Nat} (h : k < t ∨ t + 12 ≤ k) : rowA u t w k = u k := by
  unfold rowA
  rw [if_neg (by omega)]
theorem RowA_cong {u v : Nat → Int32} {o : Nat} {w : List Nat} (h : RowA u o w) (e : ∀ k, o ≤ k → k < o + 12 → v k = u k) : RowA v o w := ⟨by rw [e o (by omega) (by omega)]; exact h.1, fun k hk => by rw [e _ (by omega) (by omega)]; exact h.2 k hk⟩
theorem m_keepAnchor (d : Nat) (σ : Hp) {t p a b : Nat} {w : List Nat} (hp : p < 12) (ht : t + 12 ≤ 20448) (hw : w.length ≤ 11) (hb : b = a + w.length) (hbn : b ≤ 160) (htx : TxM σ p a w) : EV (d + 1) 147 [vr 233 0, vi (nI t), vi (nI p), vi (nI a), vi (nI b)] σ (arrI σ 245 0 (rowA (hI σ 245 0) t w)) := by
  have loop : ∀ (m k : Nat) (u : Nat → Int32), k + m = 12 → 1 ≤ k → (∀ j, (j < t + k → u j = rowA (hI σ 245 0) t w j) ∧ (t + 12 ≤ j → u j = hI σ 245 0 j)) → ∀ Q : Option AV → Hp → Prop, Q none (arrI σ 245 0 (rowA (hI σ 245 0) t w)) → Sat true (d + 1) 147 σ.1 Q 13 [some (vr 233 0), some (vi (nI t)), some (vi (nI p)), some (vi (nI a)), some (vi (nI b)), some (vi (nI k))] [] (arrI σ 245 0 u) := by
    intro m
    induction m with
    | zero =>
      intro k u hk _ hu Q hq
      have hk : k = 12 := hk
      subst hk
      have e : u = rowA (hI σ 245 0) t w := by
        funext j
        by_cases q : j < t + 12
        · exact (hu j).1 q
        · rw [(hu j).2 (by omega), rowA_out _ _ _ (by omega)]
      rw [← e] at hq
      refine wp_ok (cut := [13]) ma_147 rfl 25 _ _ _ _ ?_
      show (((nI 12) ≤ (nI 12) → (Q none (arrI σ 245 0 u) ∧ (arrI σ 245 0 u).1 = σ.1)) ∧ (¬ (nI 12) ≤ (nI 12) → (((nI b) < ((nI a) + (nI 12)) → (vp_in ((nI t) + (nI 12)) 20448 ∧ Sat true (d + 1) 147 σ.1 Q 13 [some (vr 233 0), some (vi (nI t)), some (vi (nI p)), some (vi (nI a)), some (vi (nI b)), some (vi ((nI 12) + nI 1))] [] (setI (arrI σ 245 0 u) 245 0 (((nI t) + (nI 12)).toNatClampNeg) (nI 0)))) ∧ (¬ (nI b) < ((nI a) + (nI 12)) → CalI true d 112 [vr 233 0, vi (nI p), vi (((nI a) + (nI 12)) - (nI 1))] (arrI σ 245 0 u) σ.1 (fun x2 s1 => (vp_in ((nI t) + (nI 12)) 20448 ∧ Sat true (d + 1) 147 σ.1 Q 13 [some (vr 233 0), some (vi (nI t)), some (vi (nI p)), some (vi (nI a)), some (vi (nI b)), some (vi ((nI 12) + nI 1))] [] (setI s1 245 0 (((nI t) + (nI 12)).toNatClampNeg) x2)))))))
      exact ⟨fun _ => ⟨hq, rfl⟩, fun g => absurd (by decide) g⟩
    | succ m ih =>
      intro k u hk hk1 hu Q hq
      have kq : ∀ v, v = rowA (hI σ 245 0) t w (t + k) → Sat true (d + 1) 147 σ.1 Q 13 [some (vr 233 0), some (vi (nI t)), some (vi (nI p)), some (vi (nI a)), some (vi (nI b)), some (vi (nI (k + 1)))] [] (setI (arrI σ 245 0 u) 245 0 (t + k) v) := by
        intro v hv
        rw [arrI_setI]
        refine ih (k + 1) _ (by omega) (by omega) (fun j => ⟨fun hj => ?_, fun hj => ?_⟩) Q hq
        · show (if j = t + k then v else u j) = _
          by_cases e : j = t + k
          · rw [if_pos e, e, hv]
          · rw [if_neg e]; exact (hu j).1 (by omega)
        · show (if j = t + k then v else u j) = _
          rw [if_neg (by omega)]
          exact (hu j).2 hj
      have ev : rowA (hI σ 245 0) t w (t + k) = nI (w.getD (k - 1) 0) := by
        unfold rowA
        rw [if_pos (by omega), if_neg (by omega), show t + k - t - 1 = k - 1 by omega]
      refine wp_ok (cut := [13]) ma_147 rfl 25 _ _ _ _ ?_
      show (((nI 12) ≤ (nI k) → (Q none (arrI σ 245 0 u) ∧ (arrI σ 245 0 u).1 = σ.1)) ∧ (¬ (nI 12) ≤ (nI k) → (((nI b) < ((nI a) + (nI k)) → (vp_in ((nI t) + (nI k)) 20448 ∧ Sat true (d + 1) 147 σ.1 Q 13 [some (vr 233 0), some (vi (nI t)), some (vi (nI p)), some (vi (nI a)), some (vi (nI b)), some (vi ((nI k) + nI 1))] [] (setI (arrI σ 245 0 u) 245 0 (((nI t) + (nI k)).toNatClampNeg) (nI 0)))) ∧ (¬ (nI b) < ((nI a) + (nI k)) → CalI true d 112 [vr 233 0, vi (nI p), vi (((nI a) + (nI k)) - (nI 1))] (arrI σ 245 0 u) σ.1 (fun x2 s1 => (vp_in ((nI t) + (nI k)) 20448 ∧ Sat true (d + 1) 147 σ.1 Q 13 [some (vr 233 0), some (vi (nI t)), some (vi (nI p)), some (vi (nI a)), some (vi (nI b)), some (vi ((nI k) + nI 1))] [] (setI s1 245 0 (((nI t) + (nI k)).toNatClampNeg) x2)))))))
      refine br_le (by omega) (by omega) (fun g => by omega) (fun _ => ?_)
      rw [addN, addN, addN, subN (by omega), ix (by omega)]
      refine br_lt (by omega) (by omega) (fun g => ⟨inb (by omega) (by omega), kq _ ?_⟩) (fun g => ?_)
      · rw [ev, List.getD_eq_getElem?_getD, List.getElem?_eq_none (by omega)]
        rfl
      · refine cal_i (m_sign d (arrI σ 245 0 u) (p := p) (i := a + k - 1) (by omega)) rfl ⟨inb (by omega) (by omega), kq _ ?_⟩
        rw [ev]
        show hI σ 235 0 (160 * p + (a + k - 1)) = _
        have := Tx_get htx (k := k - 1) (by omega)
        rw [show 160 * p + a + (k - 1) = 160 * p + (a + k - 1) by omega] at this
        exact this
  refine EV_of mt_147 (Nat.le_of_ble_eq_true rfl) fun Q hq => ?_
  refine wp_ok (cut := [13]) ma_147 rfl 9 _ _ _ _ ?_
  show (vp_in (nI t) 20448 ∧ Sat true (d + 1) 147 σ.1 Q 13 [some (vr 233 0), some (vi (nI t)), some (vi (nI p)), some (vi (nI a)), some (vi (nI b)), some (vi (nI 1))] [] (setI σ 245 0 ((nI t).toNatClampNeg) ((nI b) - (nI a))))
  rw [subN (by omega), ix (by omega), show b - a = w.length by omega]
  have e : setI σ 245 0 t (nI w.length) = arrI σ 245 0 (upd (hI σ 245 0) t (nI w.length)) := by
    rw [← arrI_setI, arrI_self]
  rw [e]
  refine ⟨inb (by omega) (by omega), loop 11 1 _ rfl (by omega) (fun j => ⟨fun hj => ?_, fun hj => ?_⟩) Q hq⟩
  · show (if j = t then _ else hI σ 245 0 j) = _
    by_cases q : j = t
    · subst q
      unfold rowA
      rw [if_pos rfl, if_pos (by omega), if_pos rfl]
    · rw [if_neg q, rowA_out _ _ _ (by omega)]
  · show (if j = t then _ else hI σ 245 0 j) = _
    rw [if_neg (by omega)]
