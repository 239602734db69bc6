/-! the model: say, layTarget, fitsTarget, writeTarget -/
def TgM (h : Hp) (w : List Nat) : Prop := hI h 233 0 44 = nI w.length ∧ Tx (hI h 264 0) 0 w
def STm (f k : Nat) : Prop := f = 264 ∨ (f = 233 ∧ k = 44)
def hdAn (hs : List Hd) (hd : Int32) (an : Option Anc) : Prop := (hd = (-6) ∧ an = none) ∨ ∃ i y, hs[i]? = some y ∧ hd = nI i ∧ an = some y.2.2.1
theorem m_say (d : Nat) {σ : Hp} {n : Nat} (x : Int32) (h44 : hI σ 233 0 44 = nI n) (hn : n < 16) : EV d 195 [vr 233 0, vi x] σ (setI (setI σ 264 0 n x) 233 0 44 (nI (n + 1))) := by
  refine EV_of mt_195 (Nat.le_of_ble_eq_true rfl) fun Q hq => ?_
  refine wp_ok (cut := []) ma_195 rfl 13 _ _ _ _ ?_
  show (vp_in (hI σ 233 0 44) 16 ∧ (Q none (setI (setI σ 264 0 ((hI σ 233 0 44).toNatClampNeg) x) 233 0 44 ((hI σ 233 0 44) + (nI 1))) ∧ σ.1 = σ.1))
  rw [h44, ix (by omega), addN]
  exact ⟨inb (by omega) (by omega), hq, rfl⟩
theorem TgM_sn {h : Hp} {w : List Nat} {c : Nat} (k : TgM h w) : TgM (setI (setI h 264 0 w.length (nI c)) 233 0 44 (nI (w.length + 1))) (w ++ [c]) := by
  refine ⟨?_, Tx_app.mpr ⟨Tx_cong k.2 fun i a b => ?_, ?_, trivial⟩⟩
  · rw [hI_s, List.length_append]
    rfl
  · rw [hI_f _ _ _ (by omega), hI_k _ _ _ _ (by omega)]
  · rw [hI_f _ _ _ (by omega), Nat.zero_add, hI_s]
section
variable {σ : Hp} {P : Nat → List Line} {X : Nat → XA} {rs : List (Pl × Pl)} {es : List En}
set_option maxRecDepth 6000 in
theorem m_layTarget (d : Nat) (ld : LdX σ P X) (hX : ∀ p, p < 12 → XFin P p (X p) ∧ (X p).2.2.1.length ≤ 100) {p q : Nat} {hd : Int32} {an : Option Anc} (hp : p < 12) (hq12 : q < 12) (ga : gAO an) (hh : hdAn (X q).2.2.1 hd an) : PV (d + 1) 196 [vr 233 0, vi (nI p), vi (nI q), vi hd] σ (fun h => TgM h (tgW p q an) ∧ FrM STm σ h) := by
  refine PV_of mt_196 (Nat.le_of_ble_eq_true rfl) fun Q hq => ?_
  have wl := tgW_len (p := p) (q := q) ga
  have neg : hd < 0 ↔ an = none := by
    rcases hh with ⟨h1, h2⟩ | ⟨i, y, h1, h2, h3⟩
    · rw [h1, h2]
      exact ⟨fun _ => rfl, fun _ => by decide⟩
    · have hi := All_lt h1
      have := (hX q hq12).2
      rw [h2, h3]
      exact ⟨fun w => absurd w (nn0 i (by omega)), fun w => by cases w⟩
  have s22 : ∀ (w0 : List Nat) (h : Hp), w0.length ≤ 1 → TgM h w0 → FrM STm σ h → tgW p q an = w0 ++ txOpt an → Sat true (d + 1) 196 σ.1 Q 22 [some (vr 233 0), some (vi (nI p)), some (vi (nI q)), some (vi hd), none, none] [] h := by
    intro w0 h h1 t f e
    rcases hh with ⟨hd1, hd2⟩ | ⟨i, y, hy, hd1, hd2⟩
    · refine wp_ok (cut := [42]) ma_196 rfl 11 _ _ _ _ ?_
      show ((hd < 0 → (Q none h ∧ h.1 = σ.1)) ∧ (¬ hd < 0 → CalV true d 195 [vr 233 0, vi (nI 35)] h σ.1 (fun s1 => CalI true d 144 [vi (nI q), vi hd] s1 σ.1 (fun x3 s2 => Sat true (d + 1) 196 σ.1 Q 42 [some (vr 233 0), some (vi (nI p)), some (vi (nI q)), some (vi hd), some (vi x3), some (vi (nI 1))] [] s2))))
      refine ⟨fun _ => ⟨hq h ⟨?_, f⟩, f.1⟩, fun g => absurd (neg.mpr hd2) g⟩
      rw [e, hd2]
      show TgM h (w0 ++ [])
      rw [List.append_nil]
      exact t
    · have hi := All_lt hy
      have h100 := (hX q hq12).2
      obtain ⟨-, -, y3, -, y5, -⟩ := (ld.2 q hq12).1.2.1 i y hy
      have al := txAnc_le2 y5
      have as := txAnc_lt y5
      have ew : tgW p q an = w0 ++ 35 :: txAnc y.2.2.1 := by rw [e, hd2]; rfl
      have loop : ∀ (n k : Nat) (h : Hp), k + n = (txAnc y.2.2.1).length → TgM h (w0 ++ 35 :: (txAnc y.2.2.1).take k) → FrM STm σ h → Sat true (d + 1) 196 σ.1 Q 42 [some (vr 233 0), some (vi (nI p)), some (vi (nI q)), some (vi hd), some (vi (nI (12 * (100 * q + i)))), some (vi (nI (k + 1)))] [] h := by
        intro n
        induction n with
        | zero =>
          intro k h hk t f
          have e245 : hI h 245 0 = hI σ 245 0 := f.fam (fun k w => by unfold STm at w; omega) 0
          have r0 : hI h 245 0 (12 * (100 * q + i)) = nI (txAnc y.2.2.1).length := by rw [e245]; exact y3.1
          refine wp_ok (cut := [42]) ma_196 rfl 16 _ _ _ _ ?_
          show (vp_in (nI (12 * (100 * q + i))) 20448 ∧ (((hI h 245 0 ((nI (12 * (100 * q + i))).toNatClampNeg)) < (nI (k + 1)) → (Q none h ∧ h.1 = σ.1)) ∧ (¬ (hI h 245 0 ((nI (12 * (100 * q + i))).toNatClampNeg)) < (nI (k + 1)) → (vp_in ((nI (12 * (100 * q + i))) + (nI (k + 1))) 20448 ∧ CalV true d 195 [vr 233 0, vi (hI h 245 0 (((nI (12 * (100 * q + i))) + (nI (k + 1))).toNatClampNeg))] h σ.1 (fun s1 => Sat true (d + 1) 196 σ.1 Q 42 [some (vr 233 0), some (vi (nI p)), some (vi (nI q)), some (vi hd), some (vi (nI (12 * (100 * q + i)))), some (vi ((nI (k + 1)) + nI 1))] [] s1)))))
          rw [ix (by omega), r0]
          refine ⟨inb (by omega) (by omega), br_lt (by omega) (by omega) (fun _ => ⟨hq h ⟨?_, f⟩, f.1⟩) (fun g => by omega)⟩
          rw [List.take_of_length_le (by omega)] at t
          rw [ew]
          exact t
        | succ n ih =>
          intro k h hk t f
          have hk' : k < (txAnc y.2.2.1).length := by omega
          have e245 : hI h 245 0 = hI σ 245 0 := f.fam (fun k w => by unfold STm at w; omega) 0
          have r0 : hI h 245 0 (12 * (100 * q + i)) = nI (txAnc y.2.2.1).length := by rw [e245]; exact y3.1
          have rk : hI h 245 0 (12 * (100 * q + i) + (k + 1)) = nI ((txAnc y.2.2.1).getD k 0) := by
            rw [e245, show 12 * (100 * q + i) + (k + 1) = 12 * (100 * q + i) + 1 + k by omega]
            exact y3.2 k (by omega)
          have hl : (w0 ++ 35 :: (txAnc y.2.2.1).take k).length = w0.length + 1 + k := by
            rw [List.length_append, List.length_cons, List.length_take]
            omega
          have t1 := t.1
          rw [hl] at t1
          have tk : (txAnc y.2.2.1).take (k + 1) = (txAnc y.2.2.1).take k ++ [(txAnc y.2.2.1).getD k 0] := take_s (by rw [List.getD_eq_getElem?_getD, List.getElem?_eq_getElem hk']; rfl)
          refine wp_ok (cut := [42]) ma_196 rfl 16 _ _ _ _ ?_
          show (vp_in (nI (12 * (100 * q + i))) 20448 ∧ (((hI h 245 0 ((nI (12 * (100 * q + i))).toNatClampNeg)) < (nI (k + 1)) → (Q none h ∧ h.1 = σ.1)) ∧ (¬ (hI h 245 0 ((nI (12 * (100 * q + i))).toNatClampNeg)) < (nI (k + 1)) → (vp_in ((nI (12 * (100 * q + i))) + (nI (k + 1))) 20448 ∧ CalV true d 195 [vr 233 0, vi (hI h 245 0 (((nI (12 * (100 * q + i))) + (nI (k + 1))).toNatClampNeg))] h σ.1 (fun s1 => Sat true (d + 1) 196 σ.1 Q 42 [some (vr 233 0), some (vi (nI p)), some (vi (nI q)), some (vi hd), some (vi (nI (12 * (100 * q + i)))), some (vi ((nI (k + 1)) + nI 1))] [] s1)))))
          rw [addN, addN, ix (by omega), ix (by omega), r0, rk]
          refine ⟨inb (by omega) (by omega), br_lt (by omega) (by omega) (fun g => by omega) (fun _ => ⟨inb (by omega) (by omega), cal_v (m_say d _ t1 (by omega)) f.1 (ih (k + 1) _ (by omega) ?_ ((f.sI (f := 264) (Or.inl rfl) _).sI (f := 233) (k := 44) (Or.inr ⟨rfl, rfl⟩) _))⟩)⟩
          have := TgM_sn (c := (txAnc y.2.2.1).getD k 0) t
          rw [hl] at this
          rw [tk, ← List.cons_append, ← List.append_assoc]
          exact this
      refine wp_ok (cut := [42]) ma_196 rfl 11 _ _ _ _ ?_
      show ((hd < 0 → (Q none h ∧ h.1 = σ.1)) ∧ (¬ hd < 0 → CalV true d 195 [vr 233 0, vi (nI 35)] h σ.1 (fun s1 => CalI true d 144 [vi (nI q), vi hd] s1 σ.1 (fun x3 s2 => Sat true (d + 1) 196 σ.1 Q 42 [some (vr 233 0), some (vi (nI p)), some (vi (nI q)), some (vi hd), some (vi x3), some (vi (nI 1))] [] s2))))
      refine ⟨fun g => ?_, fun _ => cal_v (m_say d _ t.1 (by omega)) f.1 ?_⟩
      · have := neg.mp g
        rw [hd2] at this
        cases this
      · rw [hd1]
        refine cal_i (m_anchorAt d _ q i) f.1 ?_
        rw [← hd1]
        exact loop (txAnc y.2.2.1).length 0 _ (by omega) (TgM_sn t) ((f.sI (f := 264) (Or.inl rfl) _).sI (f := 233) (k := 44) (Or.inr ⟨rfl, rfl⟩) _)
  have f0 : FrM STm σ (setI σ 233 0 44 (nI 0)) := (FrM.rfl' _ _).sI (f := 233) (k := 44) (Or.inr ⟨rfl, rfl⟩) _
  have t0 : TgM (setI σ 233 0 44 (nI 0)) [] := ⟨hI_s _ _ _ _ _, trivial⟩
  have s14 : tgL p q an = some q → Sat true (d + 1) 196 σ.1 Q 14 [some (vr 233 0), some (vi (nI p)), some (vi (nI q)), some (vi hd), none, none] [] (setI σ 233 0 44 (nI 0)) := by
    intro e
    refine wp_ok (cut := [22]) ma_196 rfl 5 _ _ _ _ ?_
    show CalV true d 195 [vr 233 0, vi ((nI 65) + (nI q))] (setI σ 233 0 44 (nI 0)) σ.1 (fun s1 => Sat true (d + 1) 196 σ.1 Q 22 [some (vr 233 0), some (vi (nI p)), some (vi (nI q)), some (vi hd), none, none] [] s1)
    rw [addN]
    refine cal_v (m_say d _ t0.1 (by show 0 < 16; omega)) rfl (s22 [65 + q] _ (Nat.le_refl _) (TgM_sn (w := []) t0) ((f0.sI (f := 264) (Or.inl rfl) _).sI (f := 233) (k := 44) (Or.inr ⟨rfl, rfl⟩) _) ?_)
    unfold tgW txLink
    rw [e]
    rfl
  refine wp_ok (cut := [14, 22]) ma_196 rfl 8 _ _ _ _ ?_
  show ((hd < 0 → Sat true (d + 1) 196 σ.1 Q 14 [some (vr 233 0), some (vi (nI p)), some (vi (nI q)), some (vi hd), none, none] [] (setI σ 233 0 44 (nI 0))) ∧ (¬ hd < 0 → (((nI q) = (nI p) → Sat true (d + 1) 196 σ.1 Q 22 [some (vr 233 0), some (vi (nI p)), some (vi (nI q)), some (vi hd), none, none] [] (setI σ 233 0 44 (nI 0))) ∧ (¬ (nI q) = (nI p) → Sat true (d + 1) 196 σ.1 Q 14 [some (vr 233 0), some (vi (nI p)), some (vi (nI q)), some (vi hd), none, none] [] (setI σ 233 0 44 (nI 0))))))
  refine ⟨fun g => s14 (if_pos (Or.inl (neg.mp g))), fun g => br_eq (by omega) (by omega) (fun g2 => ?_) (fun g2 => s14 (if_pos (Or.inr g2)))⟩
  have e : tgL p q an = none := if_neg (fun w => w.elim (fun u => g (neg.mpr u)) (fun u => u g2))
  refine s22 [] _ (Nat.zero_le _) t0 f0 ?_
  unfold tgW txLink
  rw [e]
  rfl
theorem m_fitsTarget (d : Nat) {p j : Nat} {k : Lk} {w : List Nat} (hp : p < 12) (hj : j < 42) (sr : SrcM σ p (P p)) (hk : (lkPg p 0 (P p))[j]? = some k) (lm : LinkM σ p j k) (tg : hI σ 233 0 44 = nI w.length) (hw : w.length ≤ 13) : EI (d + 1) 197 [vr 233 0, vi (nI p), vi (nI j)] σ (bI (decide ((txPg (P p)).length + w.length - (k.2.2.2 - k.2.2.1) ≤ 160))) σ := by
  refine EI_of mt_197 (Nat.le_of_ble_eq_true rfl) fun Q hq => ?_
  obtain ⟨-, wk1, wk2⟩ := wrL_ok (l := some 0) (a := none) sr.1 hk ⟨fun x hx => by cases hx; omega, fun x hx => (by cases hx), fun w => by cases w⟩
  have s2 := sr.2.1
  have ne := lk_ne hk
  have sz : hI σ 235 0 (1920 + p) = nI (txPg (P p)).length := by rw [sr.2.2.1, if_neg ne]
  obtain ⟨m1, m2, -, -⟩ := lm
  refine wp_ok (cut := []) ma_197 rfl 27 _ _ _ _ ?_
  show CalI true d 110 [vr 233 0, vi (nI p)] σ σ.1 (fun x2 s1 => (vp_in (((nI 42) * (nI p)) + (nI j)) 504 ∧ (vp_in (((nI 42) * (nI p)) + (nI j)) 504 ∧ (((nI 160) < ((x2 - ((hI s1 255 0 ((((nI 42) * (nI p)) + (nI j)).toNatClampNeg)) - (hI s1 254 0 ((((nI 42) * (nI p)) + (nI j)).toNatClampNeg)))) + (hI s1 233 0 44)) → (((nI 0) = 0 ∨ (nI 0) = 1) ∧ (Q (some (vi (nI 0))) s1 ∧ s1.1 = σ.1))) ∧ (¬ (nI 160) < ((x2 - ((hI s1 255 0 ((((nI 42) * (nI p)) + (nI j)).toNatClampNeg)) - (hI s1 254 0 ((((nI 42) * (nI p)) + (nI j)).toNatClampNeg)))) + (hI s1 233 0 44)) → (((nI 1) = 0 ∨ (nI 1) = 1) ∧ (Q (some (vi (nI 1))) s1 ∧ s1.1 = σ.1)))))))
  refine cal_i (m_size d σ hp) rfl ?_
  rw [mulN, addN, ix (by omega), sz, m1, m2, tg, subN (by omega), subN (by omega), addN]
  have e : (txPg (P p)).length - (k.2.2.2 - k.2.2.1) + w.length = (txPg (P p)).length + w.length - (k.2.2.2 - k.2.2.1) := by omega
  rw [e]
  refine ⟨inb (by omega) (by omega), inb (by omega) (by omega), br_lt (by omega) (by omega) (fun g => ?_) (fun g => ?_)⟩
  · rw [decide_eq_false (by omega)] at hq
    exact ⟨Or.inl rfl, hq, rfl⟩
  · rw [decide_eq_true g] at hq
    exact ⟨Or.inr rfl, hq, rfl⟩
def SWt (f k : Nat) : Prop := f = 235 ∨ f = 265 ∨ (f = 233 ∧ k = 5)
set_option maxRecDepth 6000 in
theorem m_writeTarget (d : Nat) (db : DBM σ (P, rs, es)) {p j : Nat} {k : Lk} {l : Option Nat} {an : Option Anc} (hp : p < 12) (hj : j < 42) (hk : (lkPg p 0 (P p))[j]? = some k) (lm : LinkM σ p j k) (gl : gEl (.inr (l, an))) (w13 : (txLink l an).length ≤ 13) (tg : TgM σ (txLink l an)) (h160 : (txPg (P p)).length + (txLink l an).length - (k.2.2.2 - k.2.2.1) ≤ 160) : PV (d + 1) 198 [vr 233 0, vi (nI p), vi (nI j)] σ (fun h => DBM h (updP P p (wrL (P p) k (txLink l an)), rs, es) ∧ hI h 233 0 5 = nI 0 ∧ FrM SWt σ h ∧ hI h 235 0 (1920 + p) = nI ((txPg (P p)).length + (txLink l an).length - (k.2.2.2 - k.2.2.1))) := by
  refine PV_of mt_198 (Nat.le_of_ble_eq_true rfl) fun Q hq => ?_
  obtain ⟨d1, ⟨tr1, tr2, tr3⟩, ⟨n1, n2, n3⟩⟩ := db
  have d1 : ∀ q, q < 12 → SrcM σ q (P q) := d1
  have tr1 : hI σ 235 0 2268 = nI rs.length := tr1
  have tr2 : rs.length ≤ 12 := tr2
  have tr3 : All rs (TrM σ) := tr3
  have n1 : hI σ 235 0 2829 = nI es.length := n1
  have n2 : es.length ≤ 40 := n2
  have n3 : All es (EnM σ) := n3
  have sr := d1 p hp
  obtain ⟨⟨w1, w2, w3⟩, wk1, wk2⟩ := wrL_ok sr.1 hk gl
  have o160 := sr.2.1
  have ne := lk_ne hk
  have sz : hI σ 235 0 (1920 + p) = nI (txPg (P p)).length := by rw [sr.2.2.1, if_neg ne]
  have oT : Tx (hI σ 235 0) (160 * p) (txPg (P p)) := sr.2.2.2
  obtain ⟨m1, m2, -, -⟩ := lm
  obtain ⟨T, eT⟩ : ∃ T, T = txPg (P p) := ⟨_, rfl⟩
  obtain ⟨w, ew⟩ : ∃ w, w = txLink l an := ⟨_, rfl⟩
  rw [← eT] at wk2 o160 h160 w3 sz oT hq
  rw [← ew] at w1 w2 w3 w13 tg h160 hq
  have len' : (txPg (wrL (P p) k w)).length = k.2.2.1 + w.length + (T.length - k.2.2.2) := by
    rw [w3, List.length_append, List.length_append, List.length_take, List.length_drop]
    omega
  have sk := upd_sk (P := P) (p := p) w2
  have cg : ∀ h, FrM SWt σ h → hI h 254 0 (42 * p + j) = nI k.2.2.1 ∧ hI h 255 0 (42 * p + j) = nI k.2.2.2 ∧ hI h 233 0 44 = nI w.length ∧ hI h 264 0 = hI σ 264 0 := fun h f => ⟨by rw [f.2.2.2 254 0 _ (fun q => by have := q.2; unfold SWt at this; omega)]; exact m1, by rw [f.2.2.2 255 0 _ (fun q => by have := q.2; unfold SWt at this; omega)]; exact m2, by rw [f.2.2.2 233 0 44 (fun q => by have := q.2; unfold SWt at this; omega)]; exact tg.1, f.fam (fun k w => by unfold SWt at w; omega) 0⟩
  -- the last loop
  have loop3 : ∀ (n i : Nat) (h : Hp), i + n = T.length - k.2.2.2 → FrM SWt σ h → (∀ t, t < T.length - k.2.2.2 → hI h 265 0 t = hI σ 235 0 (160 * p + (k.2.2.2 + t))) → (∀ t, hI h 235 0 t = if 160 * p + k.2.2.1 ≤ t ∧ t < 160 * p + k.2.2.1 + w.length then hI σ 264 0 (t - (160 * p + k.2.2.1)) else if 160 * p + k.2.2.1 + w.length ≤ t ∧ t < 160 * p + k.2.2.1 + w.length + i then hI σ 235 0 (160 * p + (k.2.2.2 + (t - (160 * p + k.2.2.1 + w.length)))) else hI σ 235 0 t) → Sat true (d + 1) 198 σ.1 Q 110 [some (vr 233 0), some (vi (nI p)), some (vi (nI j)), some (vi (nI (42 * p + j))), some (vi (nI k.2.2.1)), some (vi (nI (T.length - k.2.2.2))), some (vi (nI i))] [] h := by
    intro n
    induction n with
    | zero =>
      intro i h hi f a1 a2
      have hi : i = T.length - k.2.2.2 := hi
      obtain ⟨c1, c2, c3, c4⟩ := cg h f
      refine wp_ok (cut := [110]) ma_198 rfl 22 _ _ _ _ ?_
      show (((nI (T.length - k.2.2.2)) ≤ (nI i) → (vp_in ((nI 1920) + (nI p)) 2830 ∧ (((nI 0) = 0 ∨ (nI 0) = 1) ∧ (Q none (setI (setI h 235 0 (((nI 1920) + (nI p)).toNatClampNeg) (((nI k.2.2.1) + (hI h 233 0 44)) + (nI (T.length - k.2.2.2)))) 233 0 5 (nI 0)) ∧ h.1 = σ.1)))) ∧ (¬ (nI (T.length - k.2.2.2)) ≤ (nI i) → (vp_in (nI i) 160 ∧ (vp_in (((((nI 160) * (nI p)) + (nI k.2.2.1)) + (hI h 233 0 44)) + (nI i)) 2830 ∧ Sat true (d + 1) 198 σ.1 Q 110 [some (vr 233 0), some (vi (nI p)), some (vi (nI j)), some (vi (nI (42 * p + j))), some (vi (nI k.2.2.1)), some (vi (nI (T.length - k.2.2.2))), some (vi ((nI i) + nI 1))] [] (setI h 235 0 ((((((nI 160) * (nI p)) + (nI k.2.2.1)) + (hI h 233 0 44)) + (nI i)).toNatClampNeg) (hI h 265 0 ((nI i).toNatClampNeg)))))))
      rw [c3, addN, addN, addN, ix (by omega)]
      refine br_le (by omega) (by omega) (fun _ => ⟨inb (by omega) (by omega), Or.inl rfl, hq _ ⟨⟨fun q hq => ?_, ⟨?_, tr2, fun r y (hy : rs[r]? = some y) => ?_⟩, ⟨?_, n2, fun r y (hy : es[r]? = some y) => ?_⟩⟩, hI_s _ _ _ _ _, (f.sI (f := 235) (Or.inl rfl) _).sI (f := 233) (k := 5) (Or.inr (Or.inr ⟨rfl, rfl⟩)) _, ?_⟩, f.1⟩) (fun g => by omega)
      · show SrcM _ q (updP P p (wrL (P p) k w) q)
        by_cases c : q = p
        · rw [c, updP_s]
          refine ⟨w1, by omega, ?_, ?_⟩
          · have nn : wrL (P p) k w ≠ [] := fun u => ne ((skel_nil w2).mp u)
            rw [if_neg nn, hI_f _ _ _ (by omega), hI_s, len']
          · unfold TxM
            rw [Nat.add_zero, hI_f _ _ _ (by omega), w3]
            have t1 : Tx (hI σ 235 0) (160 * p) (T.take k.2.2.1) := (Tx_app.mp (by rw [List.take_append_drop]; exact oT : Tx (hI σ 235 0) (160 * p) (T.take k.2.2.1 ++ T.drop k.2.2.1))).1
            have t2 : Tx (hI σ 235 0) (160 * p + (T.take k.2.2.2).length) (T.drop k.2.2.2) := (Tx_app.mp (by rw [List.take_append_drop]; exact oT : Tx (hI σ 235 0) (160 * p) (T.take k.2.2.2 ++ T.drop k.2.2.2))).2
            have lt1 : (T.take k.2.2.1).length = k.2.2.1 := by rw [List.length_take]; omega
            have lt2 : (T.take k.2.2.2).length = k.2.2.2 := by rw [List.length_take]; omega
            rw [lt2] at t2
            refine Tx_app.mpr ⟨Tx_cong t1 fun i a b => ?_, Tx_app.mpr ⟨?_, ?_⟩⟩
            · rw [lt1] at b
              rw [hI_k _ _ _ _ (by omega), a2, if_neg (by omega), if_neg (by omega)]
            · rw [lt1]
              refine Tx_sh tg.2 fun i hi => ?_
              rw [hI_k _ _ _ _ (by omega), a2, if_pos ⟨by omega, by omega⟩]
              congr 1
              omega
            · rw [lt1]
              refine Tx_sh t2 fun i hi => ?_
              rw [List.length_drop] at hi
              rw [hI_k _ _ _ _ (by omega), a2, if_neg (by omega), if_pos ⟨by omega, by omega⟩]
              congr 1
              omega
        · rw [updP_o _ _ c]
          obtain ⟨s1, s2, s3, s4⟩ := d1 q hq
          refine ⟨s1, s2, ?_, Tx_cong s4 fun i a b => ?_⟩
          · rw [hI_f _ _ _ (by omega), hI_k _ _ _ _ (by omega), a2, if_neg (by omega), if_neg (by omega)]
            exact s3
          · rw [hI_f _ _ _ (by omega), hI_k _ _ _ _ (by omega), a2, if_neg (by omega), if_neg (by omega)]
      · rw [hI_f _ _ _ (by omega), hI_k _ _ _ _ (by omega), a2, if_neg (by omega), if_neg (by omega)]
        exact tr1
      · have hr := All_lt hy
        obtain ⟨r1, r2, r3⟩ := tr3 r y hy
        exact ⟨RowP_cong r1 fun t a b => by rw [hI_f _ _ _ (by omega), hI_k _ _ _ _ (by omega), a2, if_neg (by omega), if_neg (by omega)], RowP_cong r2 fun t a b => by rw [hI_f _ _ _ (by omega), hI_k _ _ _ _ (by omega), a2, if_neg (by omega), if_neg (by omega)], r3⟩
      · rw [hI_f _ _ _ (by omega), hI_k _ _ _ _ (by omega), a2, if_neg (by omega), if_neg (by omega)]
        exact n1
      · have hr := All_lt hy
        exact EnM_mv (fun t ht => by rw [hI_f _ _ _ (by omega), hI_k _ _ _ _ (by omega), a2, if_neg (by omega), if_neg (by omega)]) (n3 r y hy)
      · rw [hI_f _ _ _ (by omega), hI_s]
        congr 1
        omega
    | succ n ih =>
      intro i h hi f a1 a2
      obtain ⟨c1, c2, c3, c4⟩ := cg h f
      refine wp_ok (cut := [110]) ma_198 rfl 22 _ _ _ _ ?_
      show (((nI (T.length - k.2.2.2)) ≤ (nI i) → (vp_in ((nI 1920) + (nI p)) 2830 ∧ (((nI 0) = 0 ∨ (nI 0) = 1) ∧ (Q none (setI (setI h 235 0 (((nI 1920) + (nI p)).toNatClampNeg) (((nI k.2.2.1) + (hI h 233 0 44)) + (nI (T.length - k.2.2.2)))) 233 0 5 (nI 0)) ∧ h.1 = σ.1)))) ∧ (¬ (nI (T.length - k.2.2.2)) ≤ (nI i) → (vp_in (nI i) 160 ∧ (vp_in (((((nI 160) * (nI p)) + (nI k.2.2.1)) + (hI h 233 0 44)) + (nI i)) 2830 ∧ Sat true (d + 1) 198 σ.1 Q 110 [some (vr 233 0), some (vi (nI p)), some (vi (nI j)), some (vi (nI (42 * p + j))), some (vi (nI k.2.2.1)), some (vi (nI (T.length - k.2.2.2))), some (vi ((nI i) + nI 1))] [] (setI h 235 0 ((((((nI 160) * (nI p)) + (nI k.2.2.1)) + (hI h 233 0 44)) + (nI i)).toNatClampNeg) (hI h 265 0 ((nI i).toNatClampNeg)))))))
      rw [c3, mulN, addN (160 * p) k.2.2.1, addN (160 * p + k.2.2.1) w.length, addN (160 * p + k.2.2.1 + w.length) i, addN i 1, ix (n := 160 * p + k.2.2.1 + w.length + i) (by omega), ix (n := i) (by omega), a1 i (by omega)]
      refine br_le (by omega) (by omega) (fun g => by omega) (fun _ => ⟨inb (by omega) (by omega), inb (by omega) (by omega), ih (i + 1) _ (by omega) (f.sI (f := 235) (Or.inl rfl) _) (fun t ht => ?_) (fun t => ?_)⟩)
      · rw [hI_f _ _ _ (by omega)]
        exact a1 t ht
      · by_cases c : t = 160 * p + k.2.2.1 + w.length + i
        · rw [c, hI_s, if_neg (by omega), if_pos ⟨by omega, by omega⟩]
          congr 1
          omega
        · rw [hI_k _ _ _ _ c, a2]
          by_cases u : 160 * p + k.2.2.1 ≤ t ∧ t < 160 * p + k.2.2.1 + w.length
          · rw [if_pos u, if_pos u]
          · rw [if_neg u, if_neg u]
            by_cases v : 160 * p + k.2.2.1 + w.length ≤ t ∧ t < 160 * p + k.2.2.1 + w.length + i
            · rw [if_pos v, if_pos ⟨v.1, by omega⟩]
            · rw [if_neg v, if_neg (by omega)]
  have loop2 : ∀ (n i : Nat) (h : Hp), i + n = w.length → FrM SWt σ h → (∀ t, t < T.length - k.2.2.2 → hI h 265 0 t = hI σ 235 0 (160 * p + (k.2.2.2 + t))) → (∀ t, hI h 235 0 t = if 160 * p + k.2.2.1 ≤ t ∧ t < 160 * p + k.2.2.1 + i then hI σ 264 0 (t - (160 * p + k.2.2.1)) else hI σ 235 0 t) → Sat true (d + 1) 198 σ.1 Q 69 [some (vr 233 0), some (vi (nI p)), some (vi (nI j)), some (vi (nI (42 * p + j))), some (vi (nI k.2.2.1)), some (vi (nI (T.length - k.2.2.2))), some (vi (nI i))] [] h := by
    intro n
    induction n with
    | zero =>
      intro i h hi f a1 a2
      have hi : i = w.length := hi
      obtain ⟨c1, c2, c3, c4⟩ := cg h f
      refine wp_ok (cut := [69, 110]) ma_198 rfl 20 _ _ _ _ ?_
      show (((hI h 233 0 44) ≤ (nI i) → Sat true (d + 1) 198 σ.1 Q 110 [some (vr 233 0), some (vi (nI p)), some (vi (nI j)), some (vi (nI (42 * p + j))), some (vi (nI k.2.2.1)), some (vi (nI (T.length - k.2.2.2))), some (vi (nI 0))] [] h) ∧ (¬ (hI h 233 0 44) ≤ (nI i) → (vp_in (nI i) 16 ∧ (vp_in ((((nI 160) * (nI p)) + (nI k.2.2.1)) + (nI i)) 2830 ∧ Sat true (d + 1) 198 σ.1 Q 69 [some (vr 233 0), some (vi (nI p)), some (vi (nI j)), some (vi (nI (42 * p + j))), some (vi (nI k.2.2.1)), some (vi (nI (T.length - k.2.2.2))), some (vi ((nI i) + nI 1))] [] (setI h 235 0 (((((nI 160) * (nI p)) + (nI k.2.2.1)) + (nI i)).toNatClampNeg) (hI h 264 0 ((nI i).toNatClampNeg)))))))
      rw [c3]
      refine br_le (by omega) (by omega) (fun _ => loop3 (T.length - k.2.2.2) 0 h (by omega) f a1 (fun t => ?_)) (fun g => by omega)
      rw [a2, hi, if_neg (c := 160 * p + k.2.2.1 + w.length ≤ t ∧ t < 160 * p + k.2.2.1 + w.length + 0) (by omega)]
    | succ n ih =>
      intro i h hi f a1 a2
      obtain ⟨c1, c2, c3, c4⟩ := cg h f
      refine wp_ok (cut := [69, 110]) ma_198 rfl 20 _ _ _ _ ?_
      show (((hI h 233 0 44) ≤ (nI i) → Sat true (d + 1) 198 σ.1 Q 110 [some (vr 233 0), some (vi (nI p)), some (vi (nI j)), some (vi (nI (42 * p + j))), some (vi (nI k.2.2.1)), some (vi (nI (T.length - k.2.2.2))), some (vi (nI 0))] [] h) ∧ (¬ (hI h 233 0 44) ≤ (nI i) → (vp_in (nI i) 16 ∧ (vp_in ((((nI 160) * (nI p)) + (nI k.2.2.1)) + (nI i)) 2830 ∧ Sat true (d + 1) 198 σ.1 Q 69 [some (vr 233 0), some (vi (nI p)), some (vi (nI j)), some (vi (nI (42 * p + j))), some (vi (nI k.2.2.1)), some (vi (nI (T.length - k.2.2.2))), some (vi ((nI i) + nI 1))] [] (setI h 235 0 (((((nI 160) * (nI p)) + (nI k.2.2.1)) + (nI i)).toNatClampNeg) (hI h 264 0 ((nI i).toNatClampNeg)))))))
      rw [c3, mulN, addN (160 * p) k.2.2.1, addN (160 * p + k.2.2.1) i, addN i 1, ix (n := 160 * p + k.2.2.1 + i) (by omega), ix (n := i) (by omega), c4]
      refine br_le (by omega) (by omega) (fun g => by omega) (fun _ => ⟨inb (by omega) (by omega), inb (by omega) (by omega), ih (i + 1) _ (by omega) (f.sI (f := 235) (Or.inl rfl) _) (fun t ht => ?_) (fun t => ?_)⟩)
      · rw [hI_f _ _ _ (by omega)]
        exact a1 t ht
      · by_cases c : t = 160 * p + k.2.2.1 + i
        · rw [c, hI_s, if_pos ⟨by omega, by omega⟩]
          congr 1
          omega
        · rw [hI_k _ _ _ _ c, a2]
          by_cases u : 160 * p + k.2.2.1 ≤ t ∧ t < 160 * p + k.2.2.1 + i
          · rw [if_pos u, if_pos ⟨u.1, by omega⟩]
          · rw [if_neg u, if_neg (by omega)]
  have loop1 : ∀ (n i : Nat) (h : Hp), i + n = T.length - k.2.2.2 → FrM SWt σ h → hI h 235 0 = hI σ 235 0 → (∀ t, t < i → hI h 265 0 t = hI σ 235 0 (160 * p + (k.2.2.2 + t))) → Sat true (d + 1) 198 σ.1 Q 32 [some (vr 233 0), some (vi (nI p)), some (vi (nI j)), some (vi (nI (42 * p + j))), some (vi (nI k.2.2.1)), some (vi (nI (T.length - k.2.2.2))), some (vi (nI i))] [] h := by
    intro n
    induction n with
    | zero =>
      intro i h hi f a1 a2
      have hi : i = T.length - k.2.2.2 := hi
      refine wp_ok (cut := [32, 69]) ma_198 rfl 18 _ _ _ _ ?_
      show (((nI (T.length - k.2.2.2)) ≤ (nI i) → Sat true (d + 1) 198 σ.1 Q 69 [some (vr 233 0), some (vi (nI p)), some (vi (nI j)), some (vi (nI (42 * p + j))), some (vi (nI k.2.2.1)), some (vi (nI (T.length - k.2.2.2))), some (vi (nI 0))] [] h) ∧ (¬ (nI (T.length - k.2.2.2)) ≤ (nI i) → (vp_in (nI (42 * p + j)) 504 ∧ CalI true d 112 [vr 233 0, vi (nI p), vi ((hI h 255 0 ((nI (42 * p + j)).toNatClampNeg)) + (nI i))] h σ.1 (fun x2 s1 => (vp_in (nI i) 160 ∧ Sat true (d + 1) 198 σ.1 Q 32 [some (vr 233 0), some (vi (nI p)), some (vi (nI j)), some (vi (nI (42 * p + j))), some (vi (nI k.2.2.1)), some (vi (nI (T.length - k.2.2.2))), some (vi ((nI i) + nI 1))] [] (setI s1 265 0 ((nI i).toNatClampNeg) x2))))))
      refine br_le (by omega) (by omega) (fun _ => loop2 w.length 0 h (by omega) f (fun t ht => a2 t (by omega)) (fun t => ?_)) (fun g => by omega)
      rw [a1, if_neg (by omega)]
    | succ n ih =>
      intro i h hi f a1 a2
      obtain ⟨c1, c2, c3, c4⟩ := cg h f
      have sg := m_sign d h (p := p) (i := k.2.2.2 + i) (by omega)
      refine wp_ok (cut := [32, 69]) ma_198 rfl 18 _ _ _ _ ?_
      show (((nI (T.length - k.2.2.2)) ≤ (nI i) → Sat true (d + 1) 198 σ.1 Q 69 [some (vr 233 0), some (vi (nI p)), some (vi (nI j)), some (vi (nI (42 * p + j))), some (vi (nI k.2.2.1)), some (vi (nI (T.length - k.2.2.2))), some (vi (nI 0))] [] h) ∧ (¬ (nI (T.length - k.2.2.2)) ≤ (nI i) → (vp_in (nI (42 * p + j)) 504 ∧ CalI true d 112 [vr 233 0, vi (nI p), vi ((hI h 255 0 ((nI (42 * p + j)).toNatClampNeg)) + (nI i))] h σ.1 (fun x2 s1 => (vp_in (nI i) 160 ∧ Sat true (d + 1) 198 σ.1 Q 32 [some (vr 233 0), some (vi (nI p)), some (vi (nI j)), some (vi (nI (42 * p + j))), some (vi (nI k.2.2.1)), some (vi (nI (T.length - k.2.2.2))), some (vi ((nI i) + nI 1))] [] (setI s1 265 0 ((nI i).toNatClampNeg) x2))))))
      rw [ix (n := 42 * p + j) (by omega), c2, addN k.2.2.2 i, addN i 1, ix (n := i) (by omega)]
      refine br_le (by omega) (by omega) (fun g => by omega) (fun _ => ⟨inb (by omega) (by omega), cal_i sg f.1 ⟨inb (by omega) (by omega), ih (i + 1) _ (by omega) (f.sI (f := 265) (Or.inr (Or.inl rfl)) _) ?_ (fun t ht => ?_)⟩⟩)
      · rw [hI_f _ _ _ (by omega)]
        exact a1
      · by_cases c : t = i
        · rw [c, hI_s, a1]
        · rw [hI_k _ _ _ _ c]
          exact a2 t (by omega)
  refine wp_ok (cut := [32]) ma_198 rfl 22 _ _ _ _ ?_
  show (vp_in (((nI 42) * (nI p)) + (nI j)) 504 ∧ CalI true d 110 [vr 233 0, vi (nI p)] σ σ.1 (fun x2 s1 => (vp_in (((nI 42) * (nI p)) + (nI j)) 504 ∧ Sat true (d + 1) 198 σ.1 Q 32 [some (vr 233 0), some (vi (nI p)), some (vi (nI j)), some (vi (((nI 42) * (nI p)) + (nI j))), some (vi (hI σ 254 0 ((((nI 42) * (nI p)) + (nI j)).toNatClampNeg))), some (vi (x2 - (hI s1 255 0 ((((nI 42) * (nI p)) + (nI j)).toNatClampNeg)))), some (vi (nI 0))] [] s1)))
  rw [mulN, addN, ix (by omega), m1]
  refine ⟨inb (by omega) (by omega), cal_i (m_size d σ hp) rfl ?_⟩
  rw [m2, sz, subN (by omega)]
  exact ⟨inb (by omega) (by omega), loop1 (T.length - k.2.2.2) 0 σ (by omega) (FrM.rfl' _ _) rfl (fun t ht => absurd ht (Nat.not_lt_zero _))⟩
end
