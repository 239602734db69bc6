/-! the model: dropEntry, forget -/
def SMe (f k : Nat) : Prop := f = 235 ∧ 2269 ≤ k ∧ k ≤ 2829
section
variable {σ : Hp} {es : List En}
theorem EnM_mv {h h' : Hp} {j i : Nat} {y : En} (e : ∀ k, k < 14 → hI h' 235 0 (2269 + 14 * j + k) = hI h 235 0 (2269 + 14 * i + k)) (q : EnM h i y) : EnM h' j y := by
  obtain ⟨q1, q2, ⟨q3, q4⟩, q5⟩ := q
  refine ⟨(e 0 (by omega)).trans q1, (e 1 (by omega)).trans q2, ⟨(e 2 (by omega)).trans q3, fun k hk => ?_⟩, q5⟩
  have := e (3 + k) (by omega)
  rw [show 2269 + 14 * j + 2 + 1 + k = 2269 + 14 * j + (3 + k) by omega, this, show 2269 + 14 * i + (3 + k) = 2269 + 14 * i + 2 + 1 + k by omega]
  exact q4 k hk
theorem m_dropEntry (d : Nat) {r : Nat} (hr : EnsM σ es) (hl : r < es.length) : PV d 137 [vr 233 0, vi (nI r)] σ (fun h => EnsM h (es.eraseIdx r) ∧ FrM SMe σ h) := by
  refine PV_of mt_137 (Nat.le_of_ble_eq_true rfl) fun Q hq => ?_
  obtain ⟨r1, r2, r3⟩ := hr
  have loop : ∀ (n k : Nat) (h : Hp), k + n = 2269 + 14 * es.length → 2269 + 14 * (r + 1) ≤ k → FrM SMe σ h → hI h 235 0 2829 = nI es.length → (∀ i, 2269 ≤ i → i < 2269 + 14 * r → hI h 235 0 i = hI σ 235 0 i) → (∀ i, 2269 + 14 * r ≤ i → i + 14 < k → hI h 235 0 i = hI σ 235 0 (i + 14)) → (∀ i, k ≤ i + 14 → i < 2829 → hI h 235 0 i = hI σ 235 0 i) → Sat true d 137 σ.1 Q 11 [some (vr 233 0), some (vi (nI r)), some (vi (nI k))] [] h := by
    intro n
    induction n with
    | zero =>
      intro k h hk hk2 f z a1 a2 a3
      refine wp_ok (cut := [11]) ma_137 rfl 22 _ _ _ _ ?_
      show (vp_in (nI 2829) 2830 ∧ ((((nI 2269) + ((nI 14) * (hI h 235 0 2829))) ≤ (nI k) → (vp_in (nI 2829) 2830 ∧ (vp_in (nI 2829) 2830 ∧ (Q none (setI h 235 0 2829 ((hI h 235 0 2829) - (nI 1))) ∧ h.1 = σ.1)))) ∧ (¬ ((nI 2269) + ((nI 14) * (hI h 235 0 2829))) ≤ (nI k) → (vp_in (nI k) 2830 ∧ (vp_in ((nI k) - (nI 14)) 2830 ∧ Sat true d 137 σ.1 Q 11 [some (vr 233 0), some (vi (nI r)), some (vi ((nI k) + nI 1))] [] (setI h 235 0 (((nI k) - (nI 14)).toNatClampNeg) (hI h 235 0 ((nI k).toNatClampNeg))))))))
      rw [z, mulN, addN, subN (by omega)]
      have i1 : vp_in (nI 2829) 2830 := inb (by omega) (by omega)
      refine ⟨i1, br_le (by omega) (by omega) (fun _ => ⟨i1, i1, hq _ ⟨⟨?_, ?_, fun j y hy => ?_⟩, ?_⟩, f.1⟩) (fun g => by omega)⟩
      · rw [er_len hl, hI_s]
      · rw [er_len hl]
        omega
      · have hjl := All_lt hy
        rw [er_len hl] at hjl
        rcases er_at hl hy with ⟨c, w⟩ | ⟨c, w⟩
        · exact EnM_mv (fun k hk => by rw [hI_k _ _ _ _ (by omega), a1 _ (by omega) (by omega)]) (r3 j y w)
        · exact EnM_mv (fun k hk => by rw [hI_k _ _ _ _ (by omega), a2 _ (by omega) (by omega), show 2269 + 14 * j + k + 14 = 2269 + 14 * (j + 1) + k by omega]) (r3 (j + 1) y w)
      · exact f.sI (f := 235) ⟨rfl, by omega, by omega⟩ _
    | succ n ih =>
      intro k h hk hk2 f z a1 a2 a3
      refine wp_ok (cut := [11]) ma_137 rfl 22 _ _ _ _ ?_
      show (vp_in (nI 2829) 2830 ∧ ((((nI 2269) + ((nI 14) * (hI h 235 0 2829))) ≤ (nI k) → (vp_in (nI 2829) 2830 ∧ (vp_in (nI 2829) 2830 ∧ (Q none (setI h 235 0 2829 ((hI h 235 0 2829) - (nI 1))) ∧ h.1 = σ.1)))) ∧ (¬ ((nI 2269) + ((nI 14) * (hI h 235 0 2829))) ≤ (nI k) → (vp_in (nI k) 2830 ∧ (vp_in ((nI k) - (nI 14)) 2830 ∧ Sat true d 137 σ.1 Q 11 [some (vr 233 0), some (vi (nI r)), some (vi ((nI k) + nI 1))] [] (setI h 235 0 (((nI k) - (nI 14)).toNatClampNeg) (hI h 235 0 ((nI k).toNatClampNeg))))))))
      rw [z, mulN, addN, subN (a := k) (b := 14) (by omega), ix (by omega), ix (by omega), addN]
      refine ⟨inb (by omega) (by omega), br_le (by omega) (by omega) (fun g => by omega) (fun _ => ⟨inb (by omega) (by omega), inb (by omega) (by omega), ih (k + 1) _ (by omega) (by omega) (f.sI (f := 235) ⟨rfl, by omega, by omega⟩ _) ?_ (fun i h1 h2 => ?_) (fun i h1 h2 => ?_) (fun i h1 h2 => ?_)⟩)⟩
      · rw [hI_k _ _ _ _ (by omega)]
        exact z
      · rw [hI_k _ _ _ _ (by omega)]
        exact a1 i h1 h2
      · by_cases c : i = k - 14
        · rw [c, hI_s, a3 k (by omega) (by omega), show k - 14 + 14 = k by omega]
        · rw [hI_k _ _ _ _ c]
          exact a2 i h1 (by omega)
      · rw [hI_k _ _ _ _ (by omega)]
        exact a3 i (by omega) h2
  refine wp_ok (cut := [11]) ma_137 rfl 8 _ _ _ _ ?_
  show Sat true d 137 σ.1 Q 11 [some (vr 233 0), some (vi (nI r)), some (vi ((nI 2269) + ((nI 14) * ((nI r) + (nI 1)))))] [] σ
  rw [addN, mulN, addN]
  exact loop (14 * es.length - 14 * (r + 1)) _ σ (by omega) (Nat.le_refl _) (FrM.rfl' _ _) r1 (fun _ _ _ => rfl) (fun i h1 h2 => by omega) (fun _ _ _ => rfl)
theorem m_forget (d : Nat) {p t : Nat} {a : Anc} (hr : EnsM σ es) (hp : p < 12) (ht : t + 12 ≤ 20448) (ga : gAnc a) (hrow : RowA (hI σ 245 0) t (txAnc a)) : PV (d + 1) 138 [vr 233 0, vi (nI p), vi (nI t)] σ (fun h => EnsM h (erE (p, some a) es) ∧ FrM SMe σ h) := by
  refine PV_of mt_138 (Nat.le_of_ble_eq_true rfl) fun Q hq => ?_
  have loop : ∀ (b c : List En) (h : Hp), EnsM h (c ++ b) → FrM SMe σ h → (∀ h, EnsM h (c ++ erE (p, some a) b) → FrM SMe σ h → Q none h) → Sat true (d + 1) 138 σ.1 Q 2 [some (vr 233 0), some (vi (nI p)), some (vi (nI t)), some (vi (nI c.length)), none] [] h := by
    intro b
    induction b with
    | nil =>
      intro c h he f kq
      have l : (c ++ ([] : List En)).length = c.length := by rw [List.append_nil]
      have z := he.1
      rw [l] at z
      refine wp_ok (cut := [2]) ma_138 rfl 34 _ _ _ _ ?_
      show (vp_in (nI 2829) 2830 ∧ (((hI h 235 0 2829) ≤ (nI c.length) → (Q none h ∧ h.1 = σ.1)) ∧ (¬ (hI h 235 0 2829) ≤ (nI c.length) → (vp_in ((nI 2269) + ((nI 14) * (nI c.length))) 2830 ∧ ((¬ (hI h 235 0 (((nI 2269) + ((nI 14) * (nI c.length))).toNatClampNeg)) = (nI p) → Sat true (d + 1) 138 σ.1 Q 2 [some (vr 233 0), some (vi (nI p)), some (vi (nI t)), some (vi ((nI c.length) + nI 1)), some (vi ((nI 2269) + ((nI 14) * (nI c.length))))] [] h) ∧ ((hI h 235 0 (((nI 2269) + ((nI 14) * (nI c.length))).toNatClampNeg)) = (nI p) → CalI true d 135 [vr 233 0, vr 235 0, vi (((nI 2269) + ((nI 14) * (nI c.length))) + (nI 2)), vr 245 0, vi (nI t)] h σ.1 (fun x2 s1 => ((x2 = 0 → Sat true (d + 1) 138 σ.1 Q 2 [some (vr 233 0), some (vi (nI p)), some (vi (nI t)), some (vi ((nI c.length) + nI 1)), some (vi ((nI 2269) + ((nI 14) * (nI c.length))))] [] s1) ∧ (¬ x2 = 0 → CalV true d 137 [vr 233 0, vi (nI c.length)] s1 σ.1 (fun s3 => Sat true (d + 1) 138 σ.1 Q 2 [some (vr 233 0), some (vi (nI p)), some (vi (nI t)), some (vi (nI c.length)), some (vi ((nI 2269) + ((nI 14) * (nI c.length))))] [] s3))))))))))
      rw [z]
      exact ⟨inb (by omega) (by omega), fun _ => ⟨kq h he f, f.1⟩, fun g => absurd (Int32.le_refl _) g⟩
    | cons y b ih =>
      intro c h he f kq
      have hlen : (c ++ y :: b).length = c.length + (b.length + 1) := by rw [List.length_append, List.length_cons]
      have h40 := he.2.1
      have hy : (c ++ y :: b)[c.length]? = some y := by rw [List.getElem?_append_right (Nat.le_refl _), Nat.sub_self]; rfl
      obtain ⟨y1, y2, y3, y4, y5, y6⟩ := he.2.2 c.length y hy
      have e245 : hI h 245 0 = hI σ 245 0 := f.fam (fun k w => by have := w.1; omega) 0
      have sa := m_sameA235_245 (σ := h) d (i := 2269 + 14 * c.length + 2) (j := t) (by omega) ht (txAnc_le2 y5).2 (txAnc_le2 ga).2 (txAnc_lt y5) (txAnc_lt ga) y3 (by rw [e245]; exact hrow)
      have nx : plE y ≠ (p, some a) → ∀ x4 : Int32, Sat true (d + 1) 138 σ.1 Q 2 [some (vr 233 0), some (vi (nI p)), some (vi (nI t)), some (vi (nI (c.length + 1))), some (vi x4)] [] h := by
        intro g x4
        have e : erE (p, some a) (y :: b) = y :: erE (p, some a) b := by
          unfold erE
          rw [List.filter_cons_of_pos (p := fun y => decide (plE y ≠ (p, some a))) (a := y) (decide_eq_true g)]
        rw [e] at kq
        have := ih (c ++ [y]) h (by rw [List.append_assoc]; exact he) f (fun h k1 k2 => kq h (by rw [List.append_assoc] at k1; exact k1) k2)
        rw [List.length_append] at this
        exact Sat_no 4 this
      refine wp_ok (cut := [2]) ma_138 rfl 34 _ _ _ _ ?_
      show (vp_in (nI 2829) 2830 ∧ (((hI h 235 0 2829) ≤ (nI c.length) → (Q none h ∧ h.1 = σ.1)) ∧ (¬ (hI h 235 0 2829) ≤ (nI c.length) → (vp_in ((nI 2269) + ((nI 14) * (nI c.length))) 2830 ∧ ((¬ (hI h 235 0 (((nI 2269) + ((nI 14) * (nI c.length))).toNatClampNeg)) = (nI p) → Sat true (d + 1) 138 σ.1 Q 2 [some (vr 233 0), some (vi (nI p)), some (vi (nI t)), some (vi ((nI c.length) + nI 1)), some (vi ((nI 2269) + ((nI 14) * (nI c.length))))] [] h) ∧ ((hI h 235 0 (((nI 2269) + ((nI 14) * (nI c.length))).toNatClampNeg)) = (nI p) → CalI true d 135 [vr 233 0, vr 235 0, vi (((nI 2269) + ((nI 14) * (nI c.length))) + (nI 2)), vr 245 0, vi (nI t)] h σ.1 (fun x2 s1 => ((x2 = 0 → Sat true (d + 1) 138 σ.1 Q 2 [some (vr 233 0), some (vi (nI p)), some (vi (nI t)), some (vi ((nI c.length) + nI 1)), some (vi ((nI 2269) + ((nI 14) * (nI c.length))))] [] s1) ∧ (¬ x2 = 0 → CalV true d 137 [vr 233 0, vi (nI c.length)] s1 σ.1 (fun s3 => Sat true (d + 1) 138 σ.1 Q 2 [some (vr 233 0), some (vi (nI p)), some (vi (nI t)), some (vi (nI c.length)), some (vi ((nI 2269) + ((nI 14) * (nI c.length))))] [] s3))))))))))
      rw [he.1, hlen, mulN, addN, addN, addN, ix (by omega), y1]
      refine ⟨inb (by omega) (by omega), br_le (by omega) (by omega) (fun g => by omega) (fun _ => ⟨inb (by omega) (by omega), br_ne (by omega) (by omega) (fun g => nx (fun w => g (congrArg Prod.fst w)) _) (fun g => cal_i sa f.1 (brI (fun g2 => nx (fun w => of_decide_eq_false g2 (by rw [Option.some.inj (congrArg Prod.snd w)])) _) (fun g2 => ?_)))⟩)⟩
      have ey : plE y = (p, some a) := Prod.ext g (congrArg some ((txAnc_inj y5 ga).mp (of_decide_eq_true g2)))
      refine cp_v (m_dropEntry d (r := c.length) he (by omega)) f.1 (fun h2 q2 e2 => ?_)
      have ee : (c ++ y :: b).eraseIdx c.length = c ++ b := by
        rw [List.eraseIdx_append_of_length_le (Nat.le_refl _), Nat.sub_self]
        rfl
      rw [ee] at q2
      have e : erE (p, some a) (y :: b) = erE (p, some a) b := by
        unfold erE
        rw [List.filter_cons_of_neg (p := fun y => decide (plE y ≠ (p, some a))) (a := y) (by show ¬ decide (plE y ≠ (p, some a)) = true; rw [decide_eq_false (fun w => w ey)]; exact Bool.false_ne_true)]
      rw [e] at kq
      exact Sat_no 4 (ih c h2 q2.1 (f.tr q2.2) kq)
  refine wp_ok (cut := [2]) ma_138 rfl 2 _ _ _ _ ?_
  show Sat true (d + 1) 138 σ.1 Q 2 [some (vr 233 0), some (vi (nI p)), some (vi (nI t)), some (vi (nI 0)), none] [] σ
  exact loop es [] σ hr (FrM.rfl' _ _) (fun h k1 k2 => hq h ⟨k1, k2⟩)
end
