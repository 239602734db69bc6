/-! the model: layExpansion, step by step -/
theorem line_at {σ : Hp} {P : Nat → List Line} {p j : Nat} {l : Line} (hs : SrcM σ p (P p)) (hl : (P p)[j]? = some l) : TxM σ p (posL ((P p).take j)) (txLine l) ∧ posL ((P p).take j) + (txLine l).length ≤ (txPg (P p)).length ∧ (posL ((P p).take j) + (txLine l).length < (txPg (P p)).length → hI σ 235 0 (160 * p + (posL ((P p).take j) + (txLine l).length)) = nI 59) ∧ posL ((P p).take (j + 1)) = posL ((P p).take j) + ((txLine l).length + 1) := by
  have e := split_at hl
  have t : Tx (hI σ 235 0) (160 * p) (txPg (P p)) := hs.2.2.2
  have w := tx_line (u := hI σ 235 0) ((P p).take j) l ((P p).drop (j + 1)) (160 * p) (by rw [← e]; exact t)
  rw [← e] at w
  exact ⟨w.1, w.2.1, w.2.2, by rw [take_s hl, posL_sn]⟩
section
variable {σ : Hp} {P : Nat → List Line} {r : Nat} {Q : Option AV → Hp → Prop} {d : Nat}
set_option maxRecDepth 6000 in
theorem s_ex182 {rp t p a q : Nat} {s : Option Nat} {h : Hp} {y6 y7 : Int32} (hp : p < 12) (hq : q < 12) (ha : a + (txInc q s).length ≤ 160) (hs : ∀ y, s = some y → y ≤ 2) (hB : h.1 = σ.1) (ht : TxM h p a (txInc q s)) (kq : Sat true (d + 3) 156 σ.1 Q 231 (exL r rp (some (vi (nI t))) (some (vi (nI p))) (some (vi (nI a))) (some (vi y6)) (some (vi y7)) (some (vi (nI q))) (some (vi (nI (s.getD 0))))) [] h) : Sat true (d + 3) 156 σ.1 Q 182 (exL r rp (some (vi (nI t))) (some (vi (nI p))) (some (vi (nI a))) (some (vi y6)) (some (vi y7)) none none) [] h := by
  have s1 := m_sign (d + 2) h (p := p) (i := a + 1) (by cases s <;> (have ha : a + _ ≤ 160 := ha; omega))
  have s2 := m_sign (d + 2) h (p := p) (i := a + 2) (by cases s <;> (have ha : a + _ ≤ 160 := ha; omega))
  have s3 := m_sign (d + 2) h (p := p) (i := a + 3) (by cases s <;> (have ha : a + _ ≤ 160 := ha; omega))
  have t1 : hI h 235 0 (160 * p + (a + 1)) = nI (65 + q) := by
    have := Tx_get ht (k := 1) (by cases s <;> exact Nat.le_of_ble_eq_true rfl)
    rw [show 160 * p + (a + 1) = 160 * p + a + 1 by omega, this]
    cases s <;> rfl
  rw [t1] at s1
  refine wp_ok (cut := [65, 182, 231]) ma_156 rfl 27 _ _ _ _ ?_
  show CalI true (d + 2) 112 [vr 233 0, vi (nI p), vi ((nI a) + (nI 1))] h σ.1 (fun x2 s1 => CalI true (d + 2) 112 [vr 233 0, vi (nI p), vi ((nI a) + (nI 2))] s1 σ.1 (fun x4 s3 => ((¬ x4 = (nI 43) → Sat true (d + 3) 156 σ.1 Q 231 [some (vr 233 0), some (vi (nI r)), some (vi (nI rp)), some (vi (nI t)), some (vi (nI p)), some (vi (nI a)), some (vi y6), some (vi y7), some (vi (x2 - (nI 65))), some (vi (nI 0))] [] s3) ∧ (x4 = (nI 43) → CalI true (d + 2) 112 [vr 233 0, vi (nI p), vi ((nI a) + (nI 3))] s3 σ.1 (fun x6 s5 => Sat true (d + 3) 156 σ.1 Q 231 [some (vr 233 0), some (vi (nI r)), some (vi (nI rp)), some (vi (nI t)), some (vi (nI p)), some (vi (nI a)), some (vi y6), some (vi y7), some (vi (x2 - (nI 65))), some (vi (x6 - (nI 48)))] [] s5)))))
  rw [addN, addN, addN]
  refine cal_i s1 hB (cal_i s2 hB ?_)
  rw [subN (by omega), Nat.add_sub_cancel_left]
  cases s with
  | none =>
    have t2 : hI h 235 0 (160 * p + (a + 2)) = nI 125 := by
      have := Tx_get ht (k := 2) (Nat.le_of_ble_eq_true rfl)
      rw [show 160 * p + (a + 2) = 160 * p + a + 2 by omega, this]
      rfl
    rw [t2]
    exact br_ne (by omega) (by omega) (fun _ => kq) (fun g => by omega)
  | some y =>
    have t2 : hI h 235 0 (160 * p + (a + 2)) = nI 43 := by
      have := Tx_get ht (k := 2) (Nat.le_of_ble_eq_true rfl)
      rw [show 160 * p + (a + 2) = 160 * p + a + 2 by omega, this]
      rfl
    have t3 : hI h 235 0 (160 * p + (a + 3)) = nI (48 + y) := by
      have := Tx_get ht (k := 3) (Nat.le_of_ble_eq_true rfl)
      rw [show 160 * p + (a + 3) = 160 * p + a + 3 by omega, this]
      rfl
    rw [t2]
    rw [t3] at s3
    refine br_ne (by omega) (by omega) (fun g => absurd rfl g) (fun g => cal_i s3 hB ?_)
    rw [subN (by omega), Nat.add_sub_cancel_left]
    exact kq
set_option maxRecDepth 6000 in
theorem s_exStep (hr : r < 12) (hP : gP P) (hS : ∀ q, q < 12 → SrcM σ q (P q)) {st st' : XS} {x x' : XA} {h : Hp} (hst : xStep P (st, x) = some (st', x')) (mi : MI P st x) (k : XM σ h P r st x) (kq : ∀ h, XM σ h P r st' x' → Sat true (d + 3) 156 σ.1 Q 65 (exL r x'.2.2.2 none none none none none none none) [] h) : Sat true (d + 3) 156 σ.1 Q 65 (exL r x.2.2.2 none none none none none none none) [] h := by
  cases st with
  | nil => cases hst
  | cons e rest =>
    obtain ⟨p, j, add⟩ := e
    have hT : hI h 235 0 = hI σ 235 0 := k.2.2.2.2.2.2.2.2.2.2.fam (fun k => by unfold SEx SHd; omega) 0
    have hB := k.2.2.2.2.2.2.2.2.2.2.1
    have hp : p < 12 := mi.1.1 (p, j, add) List.mem_cons_self
    have hnp : onSt p rest = false := onSt_f.mpr fun e he g => (List.nodup_cons.mp mi.1.2).1 (List.mem_map.mpr ⟨e, he, g⟩)
    have hsp := hS p hp
    have hne : P p ≠ [] := mi.2.1.2.2.1
    have hj : j ≤ (P p).length := mi.2.1.2.1
    have hrl : rest.length < 12 := by
      have := okSt_len mi.1
      rw [List.length_cons] at this
      omega
    have hadd : add ≤ 2 * rest.length := mi.2.1.1
    have h160 := hsp.2.1
    have sz : hI σ 235 0 (1920 + p) = nI (txPg (P p)).length := by rw [hsp.2.2.1, if_neg hne]
    have msz := m_size (d + 2) h hp
    rw [hT, sz] at msz
    have e30 : hI h 233 0 30 = nI (rest.length + 1) := k.2.2.2.2.2.2.2.1
    have e257 : hI h 257 0 rest.length = nI p := k.2.2.2.2.2.2.2.2.2.1.1
    have e258 : hI h 258 0 rest.length = nI (posL ((P p).take j)) := k.2.2.2.2.2.2.2.2.2.1.2.1
    have e239 : hI h 239 0 r = nI x.1 := k.1
    have x100 := mi.2.2.2.2.1
    have x200 := mi.2.2.2.2.2
    have hlt : x.1 < 100 := by
      by_cases g : 100 ≤ x.1
      · rw [xStep_h g] at hst
        cases hst
      · omega
    have hst : (match (P p)[j]? with
      | none => some (rest, x)
      | some l => some (xLine P p j add rest l x)) = some (st', x') := by
      have : xStep P ((p, j, add) :: rest, x) = _ := if_neg (by omega : ¬ 100 ≤ x.1)
      rw [this] at hst
      exact hst
    -- the head of the loop is left for a line
    have s65 : posL ((P p).take j) < (txPg (P p)).length → Sat true (d + 3) 156 σ.1 Q 145 (exL r x.2.2.2 (some (vi (nI rest.length))) (some (vi (nI p))) (some (vi (nI (posL ((P p).take j))))) none none none none) [] h → Sat true (d + 3) 156 σ.1 Q 65 (exL r x.2.2.2 none none none none none none none) [] h := by
      intro g0 g
      refine wp_ok (cut := [65, 145]) ma_156 rfl 46 _ _ _ _ ?_
      show (((hI h 233 0 30) ≤ 0 → (Q none h ∧ h.1 = σ.1)) ∧ (¬ (hI h 233 0 30) ≤ 0 → (vp_in (nI r) 12 ∧ (((nI 100) ≤ (hI h 239 0 ((nI r).toNatClampNeg)) → (Q none h ∧ h.1 = σ.1)) ∧ (¬ (nI 100) ≤ (hI h 239 0 ((nI r).toNatClampNeg)) → (vp_in ((hI h 233 0 30) - (nI 1)) 13 ∧ (vp_in ((hI h 233 0 30) - (nI 1)) 13 ∧ CalI true (d + 2) 110 [vr 233 0, vi (hI h 257 0 (((hI h 233 0 30) - (nI 1)).toNatClampNeg))] h σ.1 (fun x2 s1 => (((hI h 258 0 (((hI h 233 0 30) - (nI 1)).toNatClampNeg)) < x2 → Sat true (d + 3) 156 σ.1 Q 145 [some (vr 233 0), some (vi (nI r)), some (vi (nI x.2.2.2)), some (vi ((hI h 233 0 30) - (nI 1))), some (vi (hI h 257 0 (((hI h 233 0 30) - (nI 1)).toNatClampNeg))), some (vi (hI h 258 0 (((hI h 233 0 30) - (nI 1)).toNatClampNeg))), none, none, none, none] [] s1) ∧ (¬ (hI h 258 0 (((hI h 233 0 30) - (nI 1)).toNatClampNeg)) < x2 → Sat true (d + 3) 156 σ.1 Q 65 [some (vr 233 0), some (vi (nI r)), some (vi (nI x.2.2.2)), some (vi ((hI h 233 0 30) - (nI 1))), some (vi (hI h 257 0 (((hI h 233 0 30) - (nI 1)).toNatClampNeg))), some (vi (hI h 258 0 (((hI h 233 0 30) - (nI 1)).toNatClampNeg))), none, none, none, none] [] (setI (setI s1 233 0 30 ((hI s1 233 0 30) - (nI 1))) 233 0 31 ((hI s1 233 0 31) &&& (((nI 1) <<< ((hI h 257 0 (((hI h 233 0 30) - (nI 1)).toNatClampNeg)) &&& 31)) ^^^ (-1))))))))))))))
      rw [e30, subN (by omega), Nat.add_sub_cancel, ix (by omega), ix (by omega), e239, e257, e258]
      exact br_le (b := 0) (by omega) (by omega) (fun g => by omega) (fun _ => ⟨inb (by omega) (by omega), br_le (by omega) (by omega) (fun g => by omega) (fun _ => ⟨inb (by omega) (by omega), inb (by omega) (by omega), cal_i msz hB (br_lt (by omega) (by omega) (fun _ => g) (fun g => by omega))⟩)⟩)
    cases hl : (P p)[j]? with
    | none =>
      rw [hl] at hst
      cases hst
      have hj2 : (P p).length ≤ j := List.getElem?_eq_none_iff.mp hl
      have ep : posL ((P p).take j) = (txPg (P p)).length + 1 := by rw [List.take_of_length_le hj2, posL_all hne]
      have nx := kq _ (XM_pop hp hnp k)
      refine wp_ok (cut := [65, 145]) ma_156 rfl 46 _ _ _ _ ?_
      show (((hI h 233 0 30) ≤ 0 → (Q none h ∧ h.1 = σ.1)) ∧ (¬ (hI h 233 0 30) ≤ 0 → (vp_in (nI r) 12 ∧ (((nI 100) ≤ (hI h 239 0 ((nI r).toNatClampNeg)) → (Q none h ∧ h.1 = σ.1)) ∧ (¬ (nI 100) ≤ (hI h 239 0 ((nI r).toNatClampNeg)) → (vp_in ((hI h 233 0 30) - (nI 1)) 13 ∧ (vp_in ((hI h 233 0 30) - (nI 1)) 13 ∧ CalI true (d + 2) 110 [vr 233 0, vi (hI h 257 0 (((hI h 233 0 30) - (nI 1)).toNatClampNeg))] h σ.1 (fun x2 s1 => (((hI h 258 0 (((hI h 233 0 30) - (nI 1)).toNatClampNeg)) < x2 → Sat true (d + 3) 156 σ.1 Q 145 [some (vr 233 0), some (vi (nI r)), some (vi (nI x.2.2.2)), some (vi ((hI h 233 0 30) - (nI 1))), some (vi (hI h 257 0 (((hI h 233 0 30) - (nI 1)).toNatClampNeg))), some (vi (hI h 258 0 (((hI h 233 0 30) - (nI 1)).toNatClampNeg))), none, none, none, none] [] s1) ∧ (¬ (hI h 258 0 (((hI h 233 0 30) - (nI 1)).toNatClampNeg)) < x2 → Sat true (d + 3) 156 σ.1 Q 65 [some (vr 233 0), some (vi (nI r)), some (vi (nI x.2.2.2)), some (vi ((hI h 233 0 30) - (nI 1))), some (vi (hI h 257 0 (((hI h 233 0 30) - (nI 1)).toNatClampNeg))), some (vi (hI h 258 0 (((hI h 233 0 30) - (nI 1)).toNatClampNeg))), none, none, none, none] [] (setI (setI s1 233 0 30 ((hI s1 233 0 30) - (nI 1))) 233 0 31 ((hI s1 233 0 31) &&& (((nI 1) <<< ((hI h 257 0 (((hI h 233 0 30) - (nI 1)).toNatClampNeg)) &&& 31)) ^^^ (-1))))))))))))))
      rw [e30, subN (by omega), Nat.add_sub_cancel, ix (by omega), ix (by omega), e239, e257, e258, ep]
      refine br_le (b := 0) (by omega) (by omega) (fun g => by omega) (fun _ => ⟨inb (by omega) (by omega), br_le (by omega) (by omega) (fun g => by omega) (fun _ => ⟨inb (by omega) (by omega), inb (by omega) (by omega), cal_i msz hB (br_lt (by omega) (by omega) (fun g => by omega) (fun _ => ?_))⟩)⟩)
      rw [e30, subN (by omega), Nat.add_sub_cancel]
      exact exNo nx
    | some l =>
      rw [hl] at hst
      have hst := Option.some.inj hst
      have hjl := All_lt hl
      have gl : gLine l := (hP p hp).1 l (List.mem_of_getElem? hl)
      have hlen := txLine_len gl
      obtain ⟨t1, t2, t3, t4⟩ := line_at hsp hl
      generalize ea : posL ((P p).take j) = a at t1 t2 t3 t4 s65 e258
      refine s65 (by omega) ?_
      have le := m_lineEnd (d + 1) h (a := a) (w := txLine l) hp h160 (by rw [hT]; exact sz) (txLine_s gl) (by unfold TxM; rw [hT]; exact t1) t2 (by rw [hT]; exact t3)
      have kp := XM_pos (j' := j + 1) k
      rw [t4, ← Nat.add_assoc] at kp
      have hT2 : hI (setI h 258 0 rest.length (nI (a + (txLine l).length + 1))) 235 0 = hI σ 235 0 := by
        rw [← hT]
        simp (disch := omega) only [hI_s, hI_k, hI_f, hI_sL, hL_sI, hL_s, hL_k, hL_f]
      have sg := m_sign (d + 2) (setI h 258 0 rest.length (nI (a + (txLine l).length + 1))) (p := p) (i := a) (by omega)
      rw [hT2] at sg
      refine wp_ok (cut := [65, 182, 280]) ma_156 rfl 20 _ _ _ _ ?_
      show CalI true (d + 2) 146 [vr 233 0, vi (nI p), vi (nI a)] h σ.1 (fun x2 s1 => (vp_in (nI rest.length) 13 ∧ CalI true (d + 2) 112 [vr 233 0, vi (nI p), vi (nI a)] (setI s1 258 0 ((nI rest.length).toNatClampNeg) (x2 + (nI 1))) σ.1 (fun x4 s3 => ((¬ x4 = (nI 123) → Sat true (d + 3) 156 σ.1 Q 280 [some (vr 233 0), some (vi (nI r)), some (vi (nI x.2.2.2)), some (vi (nI rest.length)), some (vi (nI p)), some (vi (nI a)), some (vi x2), some (vi x4), none, none] [] s3) ∧ (x4 = (nI 123) → Sat true (d + 3) 156 σ.1 Q 182 [some (vr 233 0), some (vi (nI r)), some (vi (nI x.2.2.2)), some (vi (nI rest.length)), some (vi (nI p)), some (vi (nI a)), some (vi x2), some (vi x4), none, none] [] s3)))))
      refine cal_i le hB ⟨inb (by omega) (by omega), ?_⟩
      rw [ix (by omega), addN]
      refine cal_i sg hB ?_
      generalize setI h 258 0 rest.length (nI (a + (txLine l).length + 1)) = h1 at kp hT2
      have hB1 := kp.2.2.2.2.2.2.2.2.2.2.1
      have e259 : hI h1 259 0 rest.length = nI add := kp.2.2.2.2.2.2.2.2.2.1.2.2.1
      rcases l with ⟨v, w⟩ | ⟨q, s⟩ | es
      · obtain ⟨g1, g2, g3⟩ := gl
        have wl := gName_len g3
        have ll : (txLine (.inl (v, w))).length = v + w.length := by
          show (List.replicate v 61 ++ w).length = _
          rw [List.length_append, List.length_replicate]
        rw [ll] at t2 t3
        obtain ⟨u1, u2⟩ := Tx_app.mp t1
        rw [List.length_replicate, Nat.add_assoc] at u2
        have c1 : hI σ 235 0 (160 * p + a) = nI 61 := by
          have := Tx_get u1 (k := 0) (by rw [List.length_replicate]; omega)
          rw [show 160 * p + a = 160 * p + a + 0 by omega, this, List.getD_eq_getElem?_getD, List.getElem?_replicate, if_pos (by omega)]
          rfl
        rw [c1, ll]
        refine br_ne (by omega) (by omega) (fun _ => ?_) (fun g => by omega)
        have ob : nOwn x.2.2.1 ≤ 53 := oB_le hP mi.2.2.1 mi.1 (fun q => by cases q)
        have kh := m_keepHeading (σ := h1) (r := r) (p := p) (a := a) (b := a + (v + w.length)) (add := add) (v := v) (hs := x.2.2.1) (w := w) d (m := rest.length + 1) (o := nOwn x.2.2.1) (s := secX rest x.2.2.1) hr hp (by have := mi.2.2.2.1; omega) (by omega) (by omega) g3 (by omega) (by omega) (by unfold TxM; rw [hT2]; exact u1) (by unfold TxM; rw [hT2]; exact u2) (by omega) (by omega) ⟨fun q => (by
          have q : rest.length = 0 := by omega
          rw [List.eq_nil_of_length_eq_zero q]; rfl), fun q => (by
          cases rest with
          | nil => exact absurd rfl q
          | cons a b => rfl)⟩ kp.2.2.1 kp.2.2.2.1 kp.2.2.2.2.1 kp.2.2.2.2.2.1 kp.2.2.2.2.2.2.2.1
        refine wp_ok (cut := [65, 304]) ma_156 rfl 13 _ _ _ _ ?_
        show ((¬ (nI 61) = (nI 61) → Sat true (d + 3) 156 σ.1 Q 304 [some (vr 233 0), some (vi (nI r)), some (vi (nI x.2.2.2)), some (vi (nI rest.length)), some (vi (nI p)), some (vi (nI a)), some (vi (nI (a + (v + w.length)))), some (vi (nI 61)), none, none] [] h1) ∧ ((nI 61) = (nI 61) → (vp_in (nI rest.length) 13 ∧ CalV true (d + 2) 155 [vr 233 0, vi (nI r), vi (nI p), vi (nI a), vi (nI (a + (v + w.length))), vi (hI h1 259 0 ((nI rest.length).toNatClampNeg))] h1 σ.1 (fun s1 => Sat true (d + 3) 156 σ.1 Q 304 [some (vr 233 0), some (vi (nI r)), some (vi (nI x.2.2.2)), some (vi (nI rest.length)), some (vi (nI p)), some (vi (nI a)), some (vi (nI (a + (v + w.length)))), some (vi (nI 61)), none, none] [] s1))))
        rw [ix (by omega), e259]
        refine br_ne (by omega) (by omega) (fun g => absurd rfl g) (fun _ => ⟨inb (by omega) (by omega), cp_v kh hB1 (fun h2 q4 _ => ?_)⟩)
        have km : XM σ h2 P r ((p, j + 1, add) :: rest) (x.1, x.2.1, x.2.2.1 ++ [(v + add, p, (w, cntN w x.2.2.1), secX rest x.2.2.1)], x.2.2.2) := XM_head kp (fun i hi => by
          cases rest with
          | nil => cases hi; omega
          | cons a b => cases hi) q4
        cases hst
        exact s_ex304 hr km kq
      · have c1 : hI σ 235 0 (160 * p + a) = nI 123 := by
          have := Tx_get t1 (k := 0) (by omega)
          rw [show 160 * p + a = 160 * p + a + 0 by omega, this]
          cases s <;> rfl
        rw [c1]
        refine br_ne (by omega) (by omega) (fun g => absurd rfl g) (fun _ => ?_)
        have t1' : TxM h1 p a (txInc q s) := by unfold TxM; rw [hT2]; exact t1
        have t2' : a + (txInc q s).length ≤ (txPg (P p)).length := t2
        refine s_ex182 hp gl.1 (by omega) gl.2 hB1 t1' ?_
        refine s_ex231 hr gl.1 rfl x200 hrl (hS q gl.1) kp (fun st2 x2 h2 e2 m2 => ?_)
        have e3 : (if P q ≠ [] ∧ onSt q ((p, j, add) :: rest) = false ∧ x.2.2.2 < 200 then ((q, 0, add + s.getD 0) :: (p, j + 1, add) :: rest, x.1, x.2.1, x.2.2.1, x.2.2.2 + 1) else ((p, j + 1, add) :: rest, x) : XS × XA) = (st', x') := hst
        have e4 : (if P q ≠ [] ∧ onSt q ((p, j, add) :: rest) = false ∧ x.2.2.2 < 200 then ((q, 0, add + s.getD 0) :: (p, j + 1, add) :: rest, x.1, x.2.1, x.2.2.1, x.2.2.2 + 1) else ((p, j + 1, add) :: rest, x) : XS × XA) = (st2, x2) := e2
        have e5 := e3.symm.trans e4
        cases e5
        exact kq h2 m2
      · obtain ⟨c, rr, ec, c2, c3, c4⟩ := first_p gl
        have c1 : hI σ 235 0 (160 * p + a) = nI c := by
          have t1 : Tx (hI σ 235 0) (160 * p + a) (txEls es) := t1
          rw [ec] at t1
          exact t1.1
        rw [c1]
        refine br_ne (by omega) (by omega) (fun _ => ?_) (fun g => absurd g c3)
        refine wp_ok (cut := [65, 304]) ma_156 rfl 13 _ _ _ _ ?_
        show ((¬ (nI c) = (nI 61) → Sat true (d + 3) 156 σ.1 Q 304 [some (vr 233 0), some (vi (nI r)), some (vi (nI x.2.2.2)), some (vi (nI rest.length)), some (vi (nI p)), some (vi (nI a)), some (vi (nI (a + (txLine (.inr (.inr es))).length))), some (vi (nI c)), none, none] [] h1) ∧ ((nI c) = (nI 61) → (vp_in (nI rest.length) 13 ∧ CalV true (d + 2) 155 [vr 233 0, vi (nI r), vi (nI p), vi (nI a), vi (nI (a + (txLine (.inr (.inr es))).length)), vi (hI h1 259 0 ((nI rest.length).toNatClampNeg))] h1 σ.1 (fun s1 => Sat true (d + 3) 156 σ.1 Q 304 [some (vr 233 0), some (vi (nI r)), some (vi (nI x.2.2.2)), some (vi (nI rest.length)), some (vi (nI p)), some (vi (nI a)), some (vi (nI (a + (txLine (.inr (.inr es))).length))), some (vi (nI c)), none, none] [] s1))))
        refine br_ne (by omega) (by omega) (fun _ => ?_) (fun g => absurd g c2)
        cases hst
        exact s_ex304 hr kp kq
end
