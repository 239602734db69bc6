/-! sums over all links: linksOfKinds, tallyOf, tally -/
def sumL (f : Lk → Nat) : List Lk → Nat
  | [] => 0
  | k :: r => f k + sumL f r
def sumP (P : Nat → List Line) (f : Lk → Nat) : Nat → Nat
  | 0 => 0
  | p + 1 => sumP P f p + sumL f (lkPg p 0 (P p))
theorem sumL_sn (f : Lk → Nat) (a : List Lk) (k : Lk) : sumL f (a ++ [k]) = sumL f a + f k := by
  induction a with
  | nil => show f k + 0 = 0 + f k; omega
  | cons x a ih =>
    show f x + sumL f (a ++ [k]) = f x + sumL f a + f k
    rw [ih]
    omega
def knd (P : Nat → List Line) (X : Nat → XA) (rs : List (Pl × Pl)) (k : Lk) : Nat := (rtRun P X rs (k.1, k.2.1)).1
section
variable {σ : Hp} {P : Nat → List Line} {X : Nat → XA} {rs : List (Pl × Pl)} {es : List En}
set_option maxRecDepth 6000 in
theorem e_linksOfKinds (d : Nat) (cs : CS σ P X rs es) (hP : gP P) {a b : Nat} (ha : a < 100) (hb : b < 100) : PI (d + 3) 101 [vr 1 0, vi (nI a), vi (nI b)] σ (nI (sumP P (fun k => if a ≤ knd P X rs k ∧ knd P X rs k ≤ b then 1 else 0) 12)) (fun h => Fr QF σ h) := by
  refine PI_of mt_101 (Nat.le_of_ble_eq_true rfl) fun Q hq => ?_
  have inner : ∀ (p : Nat), p < 12 → (∀ h, Fr QF σ h → Sat true (d + 3) 101 σ.1 Q 5 [some (vr 1 0), some (vi (nI a)), some (vi (nI b)), some (vi (nI (sumP P (fun k => if a ≤ knd P X rs k ∧ knd P X rs k ≤ b then 1 else 0) (p + 1)))), some (vi (nI (p + 1))), none, none] [] h) → ∀ (t c : List Lk) (h : Hp), lkPg p 0 (P p) = c ++ t → Fr QF σ h → Sat true (d + 3) 101 σ.1 Q 27 [some (vr 1 0), some (vi (nI a)), some (vi (nI b)), some (vi (nI (sumP P (fun k => if a ≤ knd P X rs k ∧ knd P X rs k ≤ b then 1 else 0) p + sumL (fun k => if a ≤ knd P X rs k ∧ knd P X rs k ≤ b then 1 else 0) c))), some (vi (nI p)), some (vr 21 p), some (vi (nI c.length))] [] h := by
    intro p hp kq t
    induction t with
    | nil =>
      intro c h e hf
      rw [List.append_nil] at e
      have cs1 := CS_q hf cs
      have h8 : hI h 21 p 8 = nI c.length := by rw [(cs1.2.1 p hp).2.1, lk_len, e]
      have k1 := kq h hf
      unfold sumP at k1
      rw [e] at k1
      refine wp_ok (cut := [5, 27]) ma_101 rfl 22 _ _ _ _ ?_
      show (p < 12 ∧ (((hI h 21 p 8) ≤ (nI c.length) → Sat true (d + 3) 101 σ.1 Q 5 [some (vr 1 0), some (vi (nI a)), some (vi (nI b)), some (vi (nI (sumP P (fun k => if a ≤ knd P X rs k ∧ knd P X rs k ≤ b then 1 else 0) p + sumL (fun k => if a ≤ knd P X rs k ∧ knd P X rs k ≤ b then 1 else 0) c))), some (vi ((nI p) + nI 1)), some (vr 21 p), some (vi (nI c.length))] [] h) ∧ (¬ (hI h 21 p 8) ≤ (nI c.length) → CalV true (d + 2) 43 [vr 225 0, vr 21 p, vi (nI c.length)] h σ.1 (fun s1 => (((hI s1 225 0 1) < (nI a) → Sat true (d + 3) 101 σ.1 Q 27 [some (vr 1 0), some (vi (nI a)), some (vi (nI b)), some (vi (nI (sumP P (fun k => if a ≤ knd P X rs k ∧ knd P X rs k ≤ b then 1 else 0) p + sumL (fun k => if a ≤ knd P X rs k ∧ knd P X rs k ≤ b then 1 else 0) c))), some (vi (nI p)), some (vr 21 p), some (vi ((nI c.length) + nI 1))] [] s1) ∧ (¬ (hI s1 225 0 1) < (nI a) → (((nI b) < (hI s1 225 0 1) → Sat true (d + 3) 101 σ.1 Q 27 [some (vr 1 0), some (vi (nI a)), some (vi (nI b)), some (vi (nI (sumP P (fun k => if a ≤ knd P X rs k ∧ knd P X rs k ≤ b then 1 else 0) p + sumL (fun k => if a ≤ knd P X rs k ∧ knd P X rs k ≤ b then 1 else 0) c))), some (vi (nI p)), some (vr 21 p), some (vi ((nI c.length) + nI 1))] [] s1) ∧ (¬ (nI b) < (hI s1 225 0 1) → Sat true (d + 3) 101 σ.1 Q 27 [some (vr 1 0), some (vi (nI a)), some (vi (nI b)), some (vi ((nI (sumP P (fun k => if a ≤ knd P X rs k ∧ knd P X rs k ≤ b then 1 else 0) p + sumL (fun k => if a ≤ knd P X rs k ∧ knd P X rs k ≤ b then 1 else 0) c)) + nI 1)), some (vi (nI p)), some (vr 21 p), some (vi ((nI c.length) + nI 1))] [] s1))))))))
      rw [h8, addN]
      exact ⟨hp, fun _ => Sat_no 5 (Sat_no 6 k1), fun g => absurd (Int32.le_refl _) g⟩
    | cons k t ih =>
      intro c h e hf
      have cs1 := CS_q hf cs
      have hk : (lkPg p 0 (P p))[c.length]? = some k := by rw [e, List.getElem?_append_right (Nat.le_refl _), Nat.sub_self]; rfl
      have hl : (lkPg p 0 (P p)).length = c.length + (t.length + 1) := by rw [e, List.length_append, List.length_cons]
      have h8 : hI h 21 p 8 = nI (c.length + (t.length + 1)) := by rw [(cs1.2.1 p hp).2.1, lk_len, hl]
      have b42 := (bds hP hp).2
      have k4 := rtRun_k P X rs (k.1, k.2.1)
      refine wp_ok (cut := [5, 27]) ma_101 rfl 22 _ _ _ _ ?_
      show (p < 12 ∧ (((hI h 21 p 8) ≤ (nI c.length) → Sat true (d + 3) 101 σ.1 Q 5 [some (vr 1 0), some (vi (nI a)), some (vi (nI b)), some (vi (nI (sumP P (fun k => if a ≤ knd P X rs k ∧ knd P X rs k ≤ b then 1 else 0) p + sumL (fun k => if a ≤ knd P X rs k ∧ knd P X rs k ≤ b then 1 else 0) c))), some (vi ((nI p) + nI 1)), some (vr 21 p), some (vi (nI c.length))] [] h) ∧ (¬ (hI h 21 p 8) ≤ (nI c.length) → CalV true (d + 2) 43 [vr 225 0, vr 21 p, vi (nI c.length)] h σ.1 (fun s1 => (((hI s1 225 0 1) < (nI a) → Sat true (d + 3) 101 σ.1 Q 27 [some (vr 1 0), some (vi (nI a)), some (vi (nI b)), some (vi (nI (sumP P (fun k => if a ≤ knd P X rs k ∧ knd P X rs k ≤ b then 1 else 0) p + sumL (fun k => if a ≤ knd P X rs k ∧ knd P X rs k ≤ b then 1 else 0) c))), some (vi (nI p)), some (vr 21 p), some (vi ((nI c.length) + nI 1))] [] s1) ∧ (¬ (hI s1 225 0 1) < (nI a) → (((nI b) < (hI s1 225 0 1) → Sat true (d + 3) 101 σ.1 Q 27 [some (vr 1 0), some (vi (nI a)), some (vi (nI b)), some (vi (nI (sumP P (fun k => if a ≤ knd P X rs k ∧ knd P X rs k ≤ b then 1 else 0) p + sumL (fun k => if a ≤ knd P X rs k ∧ knd P X rs k ≤ b then 1 else 0) c))), some (vi (nI p)), some (vr 21 p), some (vi ((nI c.length) + nI 1))] [] s1) ∧ (¬ (nI b) < (hI s1 225 0 1) → Sat true (d + 3) 101 σ.1 Q 27 [some (vr 1 0), some (vi (nI a)), some (vi (nI b)), some (vi ((nI (sumP P (fun k => if a ≤ knd P X rs k ∧ knd P X rs k ≤ b then 1 else 0) p + sumL (fun k => if a ≤ knd P X rs k ∧ knd P X rs k ≤ b then 1 else 0) c)) + nI 1)), some (vi (nI p)), some (vr 21 p), some (vi ((nI c.length) + nI 1))] [] s1))))))))
      rw [h8, addN, addN]
      refine ⟨hp, br_le (by omega) (by omega) (fun g => by omega) (fun _ => cp_v (e_way d cs1 hP hp hk) hf.1 (fun h1 q1 e1 => ?_))⟩
      have nx := ih (c ++ [k]) h1 (by rw [e, List.append_assoc]; rfl) (hf.tr (RF_QF q1.2))
      rw [sumL_sn, List.length_append, ← Nat.add_assoc] at nx
      have w0 : hI h1 225 0 1 = nI (knd P X rs k) := q1.1.1
      have k4 : knd P X rs k ≤ 4 := k4
      rw [w0]
      refine br_lt (by omega) (by omega) (fun g => ?_) (fun g => br_lt (by omega) (by omega) (fun g2 => ?_) (fun g2 => ?_))
      · rw [if_neg (by omega)] at nx
        exact nx
      · rw [if_neg (by omega)] at nx
        exact nx
      · rw [if_pos (by omega)] at nx
        rw [addN]
        exact nx
  have outer : ∀ (m p : Nat) (h : Hp), p + m = 12 → Fr QF σ h → Sat true (d + 3) 101 σ.1 Q 5 [some (vr 1 0), some (vi (nI a)), some (vi (nI b)), some (vi (nI (sumP P (fun k => if a ≤ knd P X rs k ∧ knd P X rs k ≤ b then 1 else 0) p))), some (vi (nI p)), none, none] [] h := by
    intro m
    induction m with
    | zero =>
      intro p h hp hf
      have hp : p = 12 := hp
      subst hp
      refine wp_ok (cut := [5, 27]) ma_101 rfl 11 _ _ _ _ ?_
      show (((nI 12) ≤ (nI 12) → (Q (some (vi (nI (sumP P (fun k => if a ≤ knd P X rs k ∧ knd P X rs k ≤ b then 1 else 0) 12)))) h ∧ h.1 = σ.1)) ∧ (¬ (nI 12) ≤ (nI 12) → (vp_in (nI 12) 12 ∧ Sat true (d + 3) 101 σ.1 Q 27 [some (vr 1 0), some (vi (nI a)), some (vi (nI b)), some (vi (nI (sumP P (fun k => if a ≤ knd P X rs k ∧ knd P X rs k ≤ b then 1 else 0) 12))), some (vi (nI 12)), some (vr 21 12), some (vi (nI 0))] [] h)))
      exact ⟨fun _ => ⟨hq h hf, hf.1⟩, fun g => absurd (Int32.le_refl _) g⟩
    | succ m ih =>
      intro p h hp hf
      refine wp_ok (cut := [5, 27]) ma_101 rfl 11 _ _ _ _ ?_
      show (((nI 12) ≤ (nI p) → (Q (some (vi (nI (sumP P (fun k => if a ≤ knd P X rs k ∧ knd P X rs k ≤ b then 1 else 0) p)))) h ∧ h.1 = σ.1)) ∧ (¬ (nI 12) ≤ (nI p) → (vp_in (nI p) 12 ∧ Sat true (d + 3) 101 σ.1 Q 27 [some (vr 1 0), some (vi (nI a)), some (vi (nI b)), some (vi (nI (sumP P (fun k => if a ≤ knd P X rs k ∧ knd P X rs k ≤ b then 1 else 0) p))), some (vi (nI p)), some (vr 21 ((nI p).toNatClampNeg)), some (vi (nI 0))] [] h)))
      rw [ix (by omega)]
      exact br_le (by omega) (by omega) (fun g => by omega) (fun _ => ⟨inb (by omega) (by omega), inner p (by omega) (fun h2 f2 => ih (p + 1) h2 (by omega) f2) _ [] h rfl hf⟩)
  refine wp_ok (cut := [5]) ma_101 rfl 4 _ _ _ _ ?_
  show Sat true (d + 3) 101 σ.1 Q 5 [some (vr 1 0), some (vi (nI a)), some (vi (nI b)), some (vi (nI 0)), some (vi (nI 0)), none, none] [] σ
  exact outer 12 0 σ (by omega) (Fr.rfl' _ _)
end
