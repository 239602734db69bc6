/-! the model: layOwn -/
def SOwn (p f k : Nat) : Prop := ((f = 247 ∨ f = 251 ∨ f = 252) ∧ k = p) ∨ ((f = 248 ∨ f = 249 ∨ f = 250) ∧ 54 * p ≤ k ∧ k < 54 * p + 54) ∨ SLk p f k
def SecM (σ : Hp) (p j : Nat) (s : Nat × Nat) : Prop := hI σ 250 0 (54 * p + j) = nI s.1 ∧ hI σ 248 0 (54 * p + j) = nI s.2 ∧ hI σ 249 0 (54 * p + j) = (-6)
def OJ (σ h : Hp) (p : Nat) (sc : List (Nat × Nat)) (ni : Nat) (mi : Int32) (lk : List Lk) : Prop := hI h 247 0 p = nI sc.length ∧ All sc (SecM h p) ∧ hI h 251 0 p = nI ni ∧ hI h 252 0 p = mi ∧ hI h 253 0 p = nI lk.length ∧ All lk (LinkM h p) ∧ FrM (SOwn p) σ h
theorem SOwn_tx (p k : Nat) : ¬ SOwn p 235 k := by unfold SOwn SLk; omega
theorem OJ_tx {σ h : Hp} {p : Nat} {sc : List (Nat × Nat)} {ni : Nat} {mi : Int32} {lk : List Lk} (hi : OJ σ h p sc ni mi lk) : hI h 235 0 = hI σ 235 0 := hi.2.2.2.2.2.2.fam (SOwn_tx p) 0
theorem sub1 (x : Int32) : x - nI 1 + nI 1 = x := Int32.sub_add_cancel x (nI 1)
theorem SecM_cong {h h' : Hp} {p j : Nat} {s : Nat × Nat} (a : hI h' 250 0 (54 * p + j) = hI h 250 0 (54 * p + j)) (b : hI h' 248 0 (54 * p + j) = hI h 248 0 (54 * p + j)) (c : hI h' 249 0 (54 * p + j) = hI h 249 0 (54 * p + j)) (k : SecM h p j s) : SecM h' p j s := ⟨a.trans k.1, b.trans k.2.1, c.trans k.2.2⟩
theorem LinkM_cong {h h' : Hp} {p j : Nat} {k : Lk} (a : hI h' 254 0 = hI h 254 0) (b : hI h' 255 0 = hI h 255 0) (c : hI h' 256 0 = hI h 256 0) (e : hI h' 245 0 = hI h 245 0) (q : LinkM h p j k) : LinkM h' p j k := by
  unfold LinkM at q ⊢
  rw [a, b, c, e]
  exact q
def posL : List Line → Nat
  | [] => 0
  | l :: r => (txLine l).length + 1 + posL r
theorem posL_sn (dl : List Line) (l : Line) : posL (dl ++ [l]) = posL dl + ((txLine l).length + 1) := by
  induction dl with
  | nil => show (txLine l).length + 1 + 0 = 0 + _; omega
  | cons a r ih => show (txLine a).length + 1 + posL (r ++ [l]) = (txLine a).length + 1 + posL r + _; omega
theorem lkPg_sn (own : Nat) : ∀ (dl : List Line) (a : Nat) (l : Line), lkPg own a (dl ++ [l]) = lkPg own a dl ++ lkLine own (a + posL dl) l := by
  intro dl
  induction dl with
  | nil => intro a l; show lkLine own a l ++ [] = [] ++ lkLine own (a + 0) l; rw [List.append_nil]; rfl
  | cons x r ih =>
    intro a l
    show lkLine own a x ++ lkPg own (a + (txLine x).length + 1) (r ++ [l]) = (lkLine own a x ++ lkPg own (a + (txLine x).length + 1) r) ++ lkLine own (a + ((txLine x).length + 1 + posL r)) l
    rw [ih, List.append_assoc, show a + (txLine x).length + 1 + posL r = a + ((txLine x).length + 1 + posL r) by omega]
theorem lkPg_app (own : Nat) : ∀ (dl rl : List Line) (a : Nat), lkPg own a (dl ++ rl) = lkPg own a dl ++ lkPg own (a + posL dl) rl := by
  intro dl
  induction dl with
  | nil => intro rl a; rfl
  | cons x r ih =>
    intro rl a
    show lkLine own a x ++ lkPg own (a + (txLine x).length + 1) (r ++ rl) = (lkLine own a x ++ lkPg own (a + (txLine x).length + 1) r) ++ lkPg own (a + ((txLine x).length + 1 + posL r)) rl
    rw [ih, List.append_assoc, show a + (txLine x).length + 1 + posL r = a + ((txLine x).length + 1 + posL r) by omega]
section
variable {σ : Hp} {p n : Nat} {Q : Option AV → Hp → Prop} {d : Nat}
/-- behind a line: on to the next -/
theorem s_next (hp : p < 12) (hn : n ≤ 160) (hs : hI σ 235 0 (1920 + p) = nI n) {h : Hp} (hf : FrM (SOwn p) σ h) {a : Nat} {w : List Nat} (hy : ∀ y ∈ w, y < 128 ∧ y ≠ 59) (ht : TxM σ p a w) (hx : a + w.length ≤ n) (he : a + w.length < n → hI σ 235 0 (160 * p + (a + w.length)) = nI 59) (k : Sat true (d + 4) 151 σ.1 Q 30 [some (vr 233 0), some (vi (nI p)), some (vi (nI (a + w.length + 1))), none, none] [] h) (e3 e4 : Int32) : Sat true (d + 4) 151 σ.1 Q 188 [some (vr 233 0), some (vi (nI p)), some (vi (nI a)), some (vi e3), some (vi e4)] [] h := by
  have hT : hI h 235 0 = hI σ 235 0 := hf.fam (SOwn_tx p) 0
  have c := m_lineEnd (d + 2) h (a := a) (w := w) hp hn (by rw [hT]; exact hs) hy (by unfold TxM; rw [hT]; exact ht) hx (by rw [hT]; exact he)
  refine wp_ok (cut := [30]) ma_151 rfl 8 _ _ _ _ ?_
  show CalI true (d + 3) 146 [vr 233 0, vi (nI p), vi (nI a)] h σ.1 (fun x2 s1 => Sat true (d + 4) 151 σ.1 Q 30 [some (vr 233 0), some (vi (nI p)), some (vi (x2 + (nI 1))), some (vi e3), some (vi e4)] [] s1)
  refine cal_i c hf.1 ?_
  rw [addN]
  exact Sat_no 3 (Sat_no 4 k)
set_option maxRecDepth 6000 in
theorem s_rest (hp : p < 12) (hn : n ≤ 160) (hs : hI σ 235 0 (1920 + p) = nI n) {h : Hp} {sc : List (Nat × Nat)} {ni : Nat} {mi : Int32} {lk : List Lk} (hi : OJ σ h p sc ni mi lk) {a : Nat} {l : (Nat × Option Nat) ⊕ List Elem} (hl : gLine (.inr l)) (ht : TxM σ p a (txLine (.inr l))) (hx : a + (txLine (.inr l)).length ≤ n) (hlk : lk.length + (lkLine p a (.inr l)).length ≤ 42) (e4 : Int32) (k : ∀ h', OJ σ h' p sc (stI ni (.inr l)) (stM mi (.inr l)) (lk ++ lkLine p a (.inr l)) → Sat true (d + 4) 151 σ.1 Q 188 [some (vr 233 0), some (vi (nI p)), some (vi (nI a)), some (vi (nI (a + (txLine (.inr l)).length))), some (vi e4)] [] h') : Sat true (d + 4) 151 σ.1 Q 135 [some (vr 233 0), some (vi (nI p)), some (vi (nI a)), some (vi (nI (a + (txLine (.inr l)).length))), some (vi e4)] [] h := by
  have hT := OJ_tx hi
  obtain ⟨j1, j2, j3, j4, j5, j6, j7⟩ := hi
  have i1 : vp_in (nI p) 12 := inb (by omega) (by omega)
  rcases l with ⟨q, s⟩ | es
  · obtain ⟨g1, g2⟩ := hl
    have t1 : hI σ 235 0 (160 * p + a) = nI 123 := by cases s <;> exact ht.1
    have t2 : hI σ 235 0 (160 * p + (a + 1)) = nI (65 + q) := by
      rw [← Nat.add_assoc]
      cases s <;> exact ht.2.1
    have ss := m_sign (d + 3) h (p := p) (i := a) (by omega)
    rw [hT, t1] at ss
    have ss2 := m_sign (d + 3) (setI h 251 0 p (nI ni + nI 1)) (p := p) (i := a + 1) (by omega)
    have e2 : hI (setI h 251 0 p (nI ni + nI 1)) 235 0 (160 * p + (a + 1)) = nI (65 + q) := by
      simp (disch := omega) only [hI_s, hI_k, hI_f, hI_sL, hL_sI, hL_s, hL_k, hL_f]
      rw [hT]
      exact t2
    rw [e2] at ss2
    refine wp_ok (cut := [188]) ma_151 rfl 32 _ _ _ _ ?_
    show CalI true (d + 3) 112 [vr 233 0, vi (nI p), vi (nI a)] h σ.1 (fun x2 s1 => ((¬ x2 = (nI 123) → CalV true (d + 3) 149 [vr 233 0, vi (nI p), vi (nI a), vi (nI (a + (txLine (.inr (.inl (q, s)))).length))] s1 σ.1 (fun s3 => Sat true (d + 4) 151 σ.1 Q 188 [some (vr 233 0), some (vi (nI p)), some (vi (nI a)), some (vi (nI (a + (txLine (.inr (.inl (q, s)))).length))), some (vi e4)] [] s3)) ∧ (x2 = (nI 123) → (vp_in (nI p) 12 ∧ (vp_in (nI p) 12 ∧ (vp_in (nI p) 12 ∧ CalI true (d + 3) 112 [vr 233 0, vi (nI p), vi ((nI a) + (nI 1))] (setI s1 251 0 ((nI p).toNatClampNeg) ((hI s1 251 0 ((nI p).toNatClampNeg)) + (nI 1))) σ.1 (fun x5 s4 => (vp_in (nI p) 12 ∧ Sat true (d + 4) 151 σ.1 Q 188 [some (vr 233 0), some (vi (nI p)), some (vi (nI a)), some (vi (nI (a + (txLine (.inr (.inl (q, s)))).length))), some (vi e4)] [] (setI s4 252 0 ((nI p).toNatClampNeg) ((hI s1 252 0 ((nI p).toNatClampNeg)) ||| ((nI 1) <<< ((x5 - (nI 65)) &&& 31))))))))))))
    rw [ix (by omega)]
    refine cal_i ss j7.1 ⟨fun g => absurd rfl g, fun _ => ⟨i1, i1, i1, ?_⟩⟩
    rw [addN] at ss2
    rw [j3, addN, addN]
    refine cal_i ss2 j7.1 ⟨i1, ?_⟩
    have e5 : hI (setI h 251 0 p (nI (ni + 1))) 252 0 p = mi := by rw [hI_f _ _ _ (Or.inl (by decide))]; exact j4
    have e6 : nI (65 + q) - nI 65 = nI q := by rw [subN (by omega)]; congr 1; omega
    have e7 : hI h 252 0 p = mi := j4
    rw [e6, e7]
    refine k _ ⟨?_, ?_, ?_, ?_, ?_, ?_, ?_⟩
    · simp (disch := omega) only [hI_s, hI_k, hI_f, hI_sL, hL_sI, hL_s, hL_k, hL_f]
      exact j1
    · exact All_mo j2 fun j y _ c => SecM_cong (by simp (disch := omega) only [hI_s, hI_k, hI_f, hI_sL, hL_sI, hL_s, hL_k, hL_f]) (by simp (disch := omega) only [hI_s, hI_k, hI_f, hI_sL, hL_sI, hL_s, hL_k, hL_f]) (by simp (disch := omega) only [hI_s, hI_k, hI_f, hI_sL, hL_sI, hL_s, hL_k, hL_f]) c
    · simp (disch := omega) only [hI_s, hI_k, hI_f, hI_sL, hL_sI, hL_s, hL_k, hL_f]
      rfl
    · simp (disch := omega) only [hI_s, hI_k, hI_f, hI_sL, hL_sI, hL_s, hL_k, hL_f]
      rfl
    · simp (disch := omega) only [hI_s, hI_k, hI_f, hI_sL, hL_sI, hL_s, hL_k, hL_f]
      rw [j5, show lkLine p a (.inr (.inl (q, s))) = [] from rfl, List.append_nil]
    · rw [show lkLine p a (.inr (.inl (q, s))) = [] from rfl, List.append_nil]
      exact All_mo j6 fun j y _ c => LinkM_cong (by simp (disch := omega) only [hI_s, hI_k, hI_f, hI_sL, hL_sI, hL_s, hL_k, hL_f]) (by simp (disch := omega) only [hI_s, hI_k, hI_f, hI_sL, hL_sI, hL_s, hL_k, hL_f]) (by simp (disch := omega) only [hI_s, hI_k, hI_f, hI_sL, hL_sI, hL_s, hL_k, hL_f]) (by simp (disch := omega) only [hI_s, hI_k, hI_f, hI_sL, hL_sI, hL_s, hL_k, hL_f]) c
    · exact (j7.sI (f := 251) (Or.inl ⟨Or.inr (Or.inl rfl), rfl⟩) _).sI (f := 252) (Or.inl ⟨Or.inr (Or.inr rfl), rfl⟩) _
  · obtain ⟨c, r, ec, c1, c2, c3⟩ := first_p hl
    have t1 : hI σ 235 0 (160 * p + a) = nI c := by
      have ht : Tx (hI σ 235 0) (160 * p + a) (txEls es) := ht
      rw [ec] at ht
      exact ht.1
    have hlen := txLine_len hl
    have ss := m_sign (d + 3) h (p := p) (i := a) (by omega)
    rw [hT, t1] at ss
    refine wp_ok (cut := [188]) ma_151 rfl 32 _ _ _ _ ?_
    show CalI true (d + 3) 112 [vr 233 0, vi (nI p), vi (nI a)] h σ.1 (fun x2 s1 => ((¬ x2 = (nI 123) → CalV true (d + 3) 149 [vr 233 0, vi (nI p), vi (nI a), vi (nI (a + (txLine (.inr (.inr es))).length))] s1 σ.1 (fun s3 => Sat true (d + 4) 151 σ.1 Q 188 [some (vr 233 0), some (vi (nI p)), some (vi (nI a)), some (vi (nI (a + (txLine (.inr (.inr es))).length))), some (vi e4)] [] s3)) ∧ (x2 = (nI 123) → (vp_in (nI p) 12 ∧ (vp_in (nI p) 12 ∧ (vp_in (nI p) 12 ∧ CalI true (d + 3) 112 [vr 233 0, vi (nI p), vi ((nI a) + (nI 1))] (setI s1 251 0 ((nI p).toNatClampNeg) ((hI s1 251 0 ((nI p).toNatClampNeg)) + (nI 1))) σ.1 (fun x5 s4 => (vp_in (nI p) 12 ∧ Sat true (d + 4) 151 σ.1 Q 188 [some (vr 233 0), some (vi (nI p)), some (vi (nI a)), some (vi (nI (a + (txLine (.inr (.inr es))).length))), some (vi e4)] [] (setI s4 252 0 ((nI p).toNatClampNeg) ((hI s1 252 0 ((nI p).toNatClampNeg)) ||| ((nI 1) <<< ((x5 - (nI 65)) &&& 31))))))))))))
    refine cal_i ss j7.1 (br_ne (by omega) (by omega) (fun _ => ?_) (fun g => absurd g c2))
    have tl : TxM h p a (txEls es) := by unfold TxM; rw [hT]; exact ht
    refine cp_v (m_layLinks d (σ := h) (h := h) (dn := lk) hp hl.2 tl rfl (by have hx : a + (txEls es).length ≤ n := hx; omega) ⟨j5, j6, FrM.rfl' _ _⟩ hlk) j7.1 (fun h' q _ => ?_)
    obtain ⟨q1, q2, q3⟩ := q
    have ff : ∀ f, f = 247 ∨ f = 248 ∨ f = 249 ∨ f = 250 ∨ f = 251 ∨ f = 252 → hI h' f 0 = hI h f 0 := fun f hf => q3.fam (fun k => by unfold SLk; omega) 0
    refine k h' ⟨?_, ?_, ?_, ?_, q1, q2, j7.tr (q3.mo fun f k s => Or.inr (Or.inr s))⟩
    · rw [ff 247 (by omega)]; exact j1
    · exact All_mo j2 fun j y _ c => SecM_cong (by rw [ff 250 (by omega)]) (by rw [ff 248 (by omega)]) (by rw [ff 249 (by omega)]) c
    · rw [ff 251 (by omega)]; exact j3
    · rw [ff 252 (by omega)]; exact j4
end
