/-! the model: layLinks, digestLine -/
section
variable {σ : Hp} {p e : Nat} {Q : Option AV → Hp → Prop} {d : Nat} {fr : Int32}
theorem s_mskip (hp : p < 12) (he : e ≤ 160) {h : Hp} {dn : List Lk} (hi : LJ σ h p dn) (op : Int32) : ∀ (w : List Nat) (a : Nat), noBr w → TxM σ p a w → a + w.length ≤ e → Sat true (d + 3) 149 σ.1 Q 7 [some (vr 233 0), some (vi (nI p)), some (vi fr), some (vi (nI e)), some (vi op), some (vi (nI (a + w.length)))] [] h → Sat true (d + 3) 149 σ.1 Q 7 [some (vr 233 0), some (vi (nI p)), some (vi fr), some (vi (nI e)), some (vi op), some (vi (nI a))] [] h := by
  intro w
  induction w with
  | nil => intro a _ _ _ k; exact k
  | cons c w ih =>
    intro a hn ht hl k
    obtain ⟨t1, t2⟩ := ht
    obtain ⟨c1, c2, c3⟩ := hn c List.mem_cons_self
    have el : a + (c :: w).length = a + 1 + w.length := by rw [List.length_cons]; omega
    rw [el] at k hl
    have k2 := ih (a + 1) (fun y hy => hn y (List.mem_cons_of_mem _ hy)) (by unfold TxM; rw [← Nat.add_assoc]; exact t2) hl k
    have ss := m_sign (d + 2) h (p := p) (i := a) (by omega)
    rw [LJ_tx hi, t1] at ss
    refine wp_ok (cut := [7]) ma_149 rfl 26 _ _ _ _ ?_
    show (((nI e) ≤ (nI a) → (Q none h ∧ h.1 = σ.1)) ∧ (¬ (nI e) ≤ (nI a) → CalI true (d + 2) 112 [vr 233 0, vi (nI p), vi (nI a)] h σ.1 (fun x2 s1 => ((¬ x2 = (nI 91) → CalI true (d + 2) 112 [vr 233 0, vi (nI p), vi (nI a)] s1 σ.1 (fun x4 s3 => ((¬ x4 = (nI 93) → Sat true (d + 3) 149 σ.1 Q 7 [some (vr 233 0), some (vi (nI p)), some (vi fr), some (vi (nI e)), some (vi op), some (vi ((nI a) + nI 1))] [] s3) ∧ (x4 = (nI 93) → CalV true (d + 2) 148 [vr 233 0, vi (nI p), vi op, vi (nI a)] s3 σ.1 (fun s5 => Sat true (d + 3) 149 σ.1 Q 7 [some (vr 233 0), some (vi (nI p)), some (vi fr), some (vi (nI e)), some (vi op), some (vi ((nI a) + nI 1))] [] s5))))) ∧ (x2 = (nI 91) → CalI true (d + 2) 112 [vr 233 0, vi (nI p), vi (nI a)] s1 σ.1 (fun x7 s6 => ((¬ x7 = (nI 93) → Sat true (d + 3) 149 σ.1 Q 7 [some (vr 233 0), some (vi (nI p)), some (vi fr), some (vi (nI e)), some (vi ((nI a) + (nI 1))), some (vi ((nI a) + nI 1))] [] s6) ∧ (x7 = (nI 93) → CalV true (d + 2) 148 [vr 233 0, vi (nI p), vi ((nI a) + (nI 1)), vi (nI a)] s6 σ.1 (fun s8 => Sat true (d + 3) 149 σ.1 Q 7 [some (vr 233 0), some (vi (nI p)), some (vi fr), some (vi (nI e)), some (vi ((nI a) + (nI 1))), some (vi ((nI a) + nI 1))] [] s8)))))))))
    refine br_le (by omega) (by omega) (fun g => by omega) (fun _ => ?_)
    refine cal_i ss hi.2.2.1 (br_ne (by omega) (by omega) (fun _ => ?_) (fun g => absurd g c2))
    refine cal_i ss hi.2.2.1 (br_ne (by omega) (by omega) (fun _ => ?_) (fun g => absurd g c3))
    rw [addN]
    exact k2
theorem s_mlels (hp : p < 12) (he : e ≤ 160) : ∀ (es : List Elem) (a : Nat) (op : Int32) (h : Hp) (dn : List Lk), (∀ x ∈ es, gEl x) → TxM σ p a (txEls es) → a + (txEls es).length ≤ e → LJ σ h p dn → dn.length + (lkEls p a es).length ≤ 42 → (∀ h' op', LJ σ h' p (dn ++ lkEls p a es) → Sat true (d + 3) 149 σ.1 Q 7 [some (vr 233 0), some (vi (nI p)), some (vi fr), some (vi (nI e)), some (vi op'), some (vi (nI (a + (txEls es).length)))] [] h') → Sat true (d + 3) 149 σ.1 Q 7 [some (vr 233 0), some (vi (nI p)), some (vi fr), some (vi (nI e)), some (vi op), some (vi (nI a))] [] h := by
  intro es
  induction es with
  | nil =>
    intro a op h dn _ _ _ hi _ k
    exact k h op (by rw [show lkEls p a [] = [] from rfl, List.append_nil]; exact hi)
  | cons x r ih =>
    intro a op h dn hg ht hl hi hc k
    have ge := hg x List.mem_cons_self
    have gr : ∀ y ∈ r, gEl y := fun y hy => hg y (List.mem_cons_of_mem _ hy)
    have one : ∀ (h : Hp) (dn : List Lk) (op : Int32), TxM σ p a (txEl x) → a + (txEl x).length ≤ e → LJ σ h p dn → dn.length + (lkEl p a x).length ≤ 42 → (∀ h' op', LJ σ h' p (dn ++ lkEl p a x) → Sat true (d + 3) 149 σ.1 Q 7 [some (vr 233 0), some (vi (nI p)), some (vi fr), some (vi (nI e)), some (vi op'), some (vi (nI (a + (txEl x).length)))] [] h') → Sat true (d + 3) 149 σ.1 Q 7 [some (vr 233 0), some (vi (nI p)), some (vi fr), some (vi (nI e)), some (vi op), some (vi (nI a))] [] h := by
      intro h dn op ht hl hi hc k
      rcases x with w | ⟨l, c⟩
      · exact s_mskip hp he hi op w a (gName_nb ge) ht hl (k h op (by rw [show lkEl p a (.inl w) = [] from rfl, List.append_nil]; exact hi))
      · obtain ⟨g1, g2, g3⟩ := ge
        obtain ⟨t1, t2⟩ := ht
        obtain ⟨t3, t4, _⟩ := Tx_app.mp t2
        have e5 : (txEl (.inr (l, c))).length = (txLink l c).length + 2 := by
          show (91 :: (txLink l c ++ [93])).length = _
          rw [List.length_cons, List.length_append]
          rfl
        rw [e5] at hl k
        have hdl : dn.length < 42 := by
          have : (lkEl p a (.inr (l, c))).length = 1 := rfl
          omega
        have t3' : TxM σ p (a + 1) (txLink l c) := by unfold TxM; rw [← Nat.add_assoc]; exact t3
        have kc : Sat true (d + 3) 149 σ.1 Q 7 [some (vr 233 0), some (vi (nI p)), some (vi fr), some (vi (nI e)), some (vi (nI (a + 1))), some (vi (nI (a + 1 + (txLink l c).length)))] [] h := by
          have ss := m_sign (d + 2) h (p := p) (i := a + 1 + (txLink l c).length) (by omega)
          have e6 : hI h 235 0 (160 * p + (a + 1 + (txLink l c).length)) = nI 93 := by
            rw [LJ_tx hi, show 160 * p + (a + 1 + (txLink l c).length) = 160 * p + a + 1 + (txLink l c).length by omega]
            exact t4
          rw [e6] at ss
          refine wp_ok (cut := [7]) ma_149 rfl 26 _ _ _ _ ?_
          show (((nI e) ≤ (nI (a + 1 + (txLink l c).length)) → (Q none h ∧ h.1 = σ.1)) ∧ (¬ (nI e) ≤ (nI (a + 1 + (txLink l c).length)) → CalI true (d + 2) 112 [vr 233 0, vi (nI p), vi (nI (a + 1 + (txLink l c).length))] h σ.1 (fun x2 s1 => ((¬ x2 = (nI 91) → CalI true (d + 2) 112 [vr 233 0, vi (nI p), vi (nI (a + 1 + (txLink l c).length))] s1 σ.1 (fun x4 s3 => ((¬ x4 = (nI 93) → Sat true (d + 3) 149 σ.1 Q 7 [some (vr 233 0), some (vi (nI p)), some (vi fr), some (vi (nI e)), some (vi (nI (a + 1))), some (vi ((nI (a + 1 + (txLink l c).length)) + nI 1))] [] s3) ∧ (x4 = (nI 93) → CalV true (d + 2) 148 [vr 233 0, vi (nI p), vi (nI (a + 1)), vi (nI (a + 1 + (txLink l c).length))] s3 σ.1 (fun s5 => Sat true (d + 3) 149 σ.1 Q 7 [some (vr 233 0), some (vi (nI p)), some (vi fr), some (vi (nI e)), some (vi (nI (a + 1))), some (vi ((nI (a + 1 + (txLink l c).length)) + nI 1))] [] s5))))) ∧ (x2 = (nI 91) → CalI true (d + 2) 112 [vr 233 0, vi (nI p), vi (nI (a + 1 + (txLink l c).length))] s1 σ.1 (fun x7 s6 => ((¬ x7 = (nI 93) → Sat true (d + 3) 149 σ.1 Q 7 [some (vr 233 0), some (vi (nI p)), some (vi fr), some (vi (nI e)), some (vi ((nI (a + 1 + (txLink l c).length)) + (nI 1))), some (vi ((nI (a + 1 + (txLink l c).length)) + nI 1))] [] s6) ∧ (x7 = (nI 93) → CalV true (d + 2) 148 [vr 233 0, vi (nI p), vi ((nI (a + 1 + (txLink l c).length)) + (nI 1)), vi (nI (a + 1 + (txLink l c).length))] s6 σ.1 (fun s8 => Sat true (d + 3) 149 σ.1 Q 7 [some (vr 233 0), some (vi (nI p)), some (vi fr), some (vi (nI e)), some (vi ((nI (a + 1 + (txLink l c).length)) + (nI 1))), some (vi ((nI (a + 1 + (txLink l c).length)) + nI 1))] [] s8)))))))))
          refine br_le (by omega) (by omega) (fun g => by omega) (fun _ => ?_)
          refine cal_i ss hi.2.2.1 ⟨fun _ => ?_, fun g => absurd g (by decide)⟩
          refine cal_i ss hi.2.2.1 ⟨fun g => absurd rfl g, fun _ => ?_⟩
          refine cp_v (m_keepLink d hp hi hdl g1 g2 g3 t3' rfl (by omega)) hi.2.2.1 (fun h' hi' _ => ?_)
          rw [addN]
          have := k h' (nI (a + 1)) hi'
          rw [show a + ((txLink l c).length + 2) = a + 1 + (txLink l c).length + 1 by omega] at this
          exact this
        have ks := s_mskip (d := d) (fr := fr) hp he hi (nI (a + 1)) (txLink l c) (a + 1) (txLink_nb g1 g2) t3' (by omega) kc
        have ss := m_sign (d + 2) h (p := p) (i := a) (by omega)
        have e7 : hI h 235 0 (160 * p + a) = nI 91 := by rw [LJ_tx hi]; exact t1
        rw [e7] at ss
        refine wp_ok (cut := [7]) ma_149 rfl 26 _ _ _ _ ?_
        show (((nI e) ≤ (nI a) → (Q none h ∧ h.1 = σ.1)) ∧ (¬ (nI e) ≤ (nI a) → CalI true (d + 2) 112 [vr 233 0, vi (nI p), vi (nI a)] h σ.1 (fun x2 s1 => ((¬ x2 = (nI 91) → CalI true (d + 2) 112 [vr 233 0, vi (nI p), vi (nI a)] s1 σ.1 (fun x4 s3 => ((¬ x4 = (nI 93) → Sat true (d + 3) 149 σ.1 Q 7 [some (vr 233 0), some (vi (nI p)), some (vi fr), some (vi (nI e)), some (vi op), some (vi ((nI a) + nI 1))] [] s3) ∧ (x4 = (nI 93) → CalV true (d + 2) 148 [vr 233 0, vi (nI p), vi op, vi (nI a)] s3 σ.1 (fun s5 => Sat true (d + 3) 149 σ.1 Q 7 [some (vr 233 0), some (vi (nI p)), some (vi fr), some (vi (nI e)), some (vi op), some (vi ((nI a) + nI 1))] [] s5))))) ∧ (x2 = (nI 91) → CalI true (d + 2) 112 [vr 233 0, vi (nI p), vi (nI a)] s1 σ.1 (fun x7 s6 => ((¬ x7 = (nI 93) → Sat true (d + 3) 149 σ.1 Q 7 [some (vr 233 0), some (vi (nI p)), some (vi fr), some (vi (nI e)), some (vi ((nI a) + (nI 1))), some (vi ((nI a) + nI 1))] [] s6) ∧ (x7 = (nI 93) → CalV true (d + 2) 148 [vr 233 0, vi (nI p), vi ((nI a) + (nI 1)), vi (nI a)] s6 σ.1 (fun s8 => Sat true (d + 3) 149 σ.1 Q 7 [some (vr 233 0), some (vi (nI p)), some (vi fr), some (vi (nI e)), some (vi ((nI a) + (nI 1))), some (vi ((nI a) + nI 1))] [] s8)))))))))
        refine br_le (by omega) (by omega) (fun g => by omega) (fun _ => ?_)
        refine cal_i ss hi.2.2.1 ⟨fun g => absurd rfl g, fun _ => ?_⟩
        refine cal_i ss hi.2.2.1 ⟨fun _ => ?_, fun g => absurd g (by decide)⟩
        rw [addN]
        exact ks
    cases r with
    | nil =>
      have e1 : lkEls p a [x] = lkEl p a x := List.append_nil _
      rw [e1] at hc k
      exact one h dn op ht hl hi hc k
    | cons f r' =>
      have ht : Tx (hI σ 235 0) (160 * p + a) (txEl x ++ 44 :: txEls (f :: r')) := ht
      obtain ⟨t1, t2, t3⟩ := Tx_app.mp ht
      have e1 : (txEls (x :: f :: r')).length = (txEl x).length + (1 + (txEls (f :: r')).length) := by
        show (txEl x ++ 44 :: txEls (f :: r')).length = _
        rw [List.length_append, List.length_cons]
        omega
      have e2 : lkEls p a (x :: f :: r') = lkEl p a x ++ lkEls p (a + (txEl x).length + 1) (f :: r') := rfl
      rw [e1] at hl k
      rw [e2, List.length_append] at hc
      rw [e2] at k
      refine one h dn op t1 (by omega) hi (by omega) (fun h' op' hi' => ?_)
      refine s_mskip (d := d) (fr := fr) hp he hi' op' [44] (a + (txEl x).length) (fun y hy => by rw [List.mem_singleton.mp hy]; decide) ⟨by rw [← Nat.add_assoc]; exact t2, trivial⟩ (by show a + (txEl x).length + 1 ≤ e; omega) ?_
      refine ih (a + (txEl x).length + 1) op' h' (dn ++ lkEl p a x) gr ?_ (by omega) hi' (by rw [List.length_append]; omega) (fun h2 op2 hi2 => ?_)
      · unfold TxM
        rw [show 160 * p + (a + (txEl x).length + 1) = 160 * p + a + (txEl x).length + 1 by omega]
        exact t3
      rw [List.append_assoc] at hi2
      have := k h2 op2 hi2
      rw [show a + ((txEl x).length + (1 + (txEls (f :: r')).length)) = a + (txEl x).length + 1 + (txEls (f :: r')).length by omega] at this
      exact this
end
theorem m_layLinks (d : Nat) {σ h : Hp} {p a e : Nat} {es : List Elem} {dn : List Lk} (hp : p < 12) (hg : ∀ x ∈ es, gEl x) (ht : TxM σ p a (txEls es)) (he : e = a + (txEls es).length) (he2 : e ≤ 160) (hi : LJ σ h p dn) (hc : dn.length + (lkEls p a es).length ≤ 42) : PV (d + 3) 149 [vr 233 0, vi (nI p), vi (nI a), vi (nI e)] h (fun h' => LJ σ h' p (dn ++ lkEls p a es)) := by
  refine PV_of mt_149 (Nat.le_of_ble_eq_true rfl) fun Q hq => ?_
  refine wp_ok (cut := [7]) ma_149 rfl 4 _ _ _ _ ?_
  show Sat true (d + 3) 149 h.1 Q 7 [some (vr 233 0), some (vi (nI p)), some (vi (nI a)), some (vi (nI e)), some (vi (-6)), some (vi (nI a))] [] h
  rw [hi.2.2.1]
  refine s_mlels hp he2 es a (-6) h dn hg ht (by omega) hi hc (fun h' op' hi' => ?_)
  rw [← he]
  refine wp_ok (cut := [7]) ma_149 rfl 26 _ _ _ _ ?_
  show (((nI e) ≤ (nI e) → (Q none h' ∧ h'.1 = σ.1)) ∧ (¬ (nI e) ≤ (nI e) → CalI true (d + 2) 112 [vr 233 0, vi (nI p), vi (nI e)] h' σ.1 (fun x2 s1 => ((¬ x2 = (nI 91) → CalI true (d + 2) 112 [vr 233 0, vi (nI p), vi (nI e)] s1 σ.1 (fun x4 s3 => ((¬ x4 = (nI 93) → Sat true (d + 3) 149 σ.1 Q 7 [some (vr 233 0), some (vi (nI p)), some (vi (nI a)), some (vi (nI e)), some (vi op'), some (vi ((nI e) + nI 1))] [] s3) ∧ (x4 = (nI 93) → CalV true (d + 2) 148 [vr 233 0, vi (nI p), vi op', vi (nI e)] s3 σ.1 (fun s5 => Sat true (d + 3) 149 σ.1 Q 7 [some (vr 233 0), some (vi (nI p)), some (vi (nI a)), some (vi (nI e)), some (vi op'), some (vi ((nI e) + nI 1))] [] s5))))) ∧ (x2 = (nI 91) → CalI true (d + 2) 112 [vr 233 0, vi (nI p), vi (nI e)] s1 σ.1 (fun x7 s6 => ((¬ x7 = (nI 93) → Sat true (d + 3) 149 σ.1 Q 7 [some (vr 233 0), some (vi (nI p)), some (vi (nI a)), some (vi (nI e)), some (vi ((nI e) + (nI 1))), some (vi ((nI e) + nI 1))] [] s6) ∧ (x7 = (nI 93) → CalV true (d + 2) 148 [vr 233 0, vi (nI p), vi ((nI e) + (nI 1)), vi (nI e)] s6 σ.1 (fun s8 => Sat true (d + 3) 149 σ.1 Q 7 [some (vr 233 0), some (vi (nI p)), some (vi (nI a)), some (vi (nI e)), some (vi ((nI e) + (nI 1))), some (vi ((nI e) + nI 1))] [] s8)))))))))
  exact ⟨fun _ => ⟨hq h' hi', hi'.2.2.1⟩, fun g => absurd (Int32.le_refl _) g⟩
theorem m_digestLine (d : Nat) (h : Hp) {s p a e g : Nat} {w : List Nat} {c : Int32} (hp : p < 12) (hs : s < 648) (hg : hI h 248 0 s = nI g) (hg2 : g < 1000003) (hc : hI h 250 0 s = c) (hw : small w) (ht : TxM h p a w) (he : e = a + w.length) (he2 : e ≤ 160) : EV (d + 1) 150 [vr 233 0, vi (nI s), vi (nI p), vi (nI a), vi (nI e)] h (setI (setI h 248 0 s (nI (dg g w))) 250 0 s (c + nI 1)) := by
  have loop : ∀ (w : List Nat) (a v W : Nat), small w → TxM h p a w → a + w.length = e → v < 1000003 → dgF v w = W → ∀ (fr : Int32) (Q : Option AV → Hp → Prop), Q none (setI (setI h 248 0 s (nI W)) 250 0 s (c + nI 1)) → Sat true (d + 1) 150 h.1 Q 20 [some (vr 233 0), some (vi (nI s)), some (vi (nI p)), some (vi fr), some (vi (nI e)), some (vi (nI v)), some (vi (nI a))] [] h := by
    intro w
    induction w with
    | nil =>
      intro a v W _ _ hx _ hW fr Q hq
      have hx : a = e := hx
      have hW : v = W := hW
      subst hx
      subst hW
      refine wp_ok (cut := [20]) ma_150 rfl 17 _ _ _ _ ?_
      show (((nI a) ≤ (nI a) → (vp_in (nI s) 648 ∧ (vp_in (nI s) 648 ∧ (vp_in (nI s) 648 ∧ (Q none (setI (setI h 248 0 ((nI s).toNatClampNeg) (nI v)) 250 0 ((nI s).toNatClampNeg) ((hI h 250 0 ((nI s).toNatClampNeg)) + (nI 1))) ∧ h.1 = h.1))))) ∧ (¬ (nI a) ≤ (nI a) → CalI true d 112 [vr 233 0, vi (nI p), vi (nI a)] h h.1 (fun x2 s1 => (¬ (nI 1000003) = 0 ∧ Sat true (d + 1) 150 h.1 Q 20 [some (vr 233 0), some (vi (nI s)), some (vi (nI p)), some (vi fr), some (vi (nI a)), some (vi ((((nI 31) * (nI v)) + x2) - (((nI 31) * (nI v)) + x2) / (nI 1000003) * (nI 1000003))), some (vi ((nI a) + nI 1))] [] s1))))
      refine ⟨fun _ => ?_, fun q => absurd (Int32.le_refl _) q⟩
      rw [ix (by omega), hc]
      exact ⟨inb (by omega) (by omega), inb (by omega) (by omega), inb (by omega) (by omega), hq, rfl⟩
    | cons y w ih =>
      intro a v W hw ht hx hv hW fr Q hq
      obtain ⟨t1, t2⟩ := ht
      rw [List.length_cons] at hx
      have hy : y < 128 := hw y List.mem_cons_self
      have kq := ih (a + 1) ((31 * v + y) % 1000003) W (fun z hz => hw z (List.mem_cons_of_mem _ hz)) (by unfold TxM; rw [← Nat.add_assoc]; exact t2) (by omega) (Nat.mod_lt _ (by decide)) hW fr Q hq
      have ss := m_sign d h (p := p) (i := a) (by omega)
      rw [t1] at ss
      refine wp_ok (cut := [20]) ma_150 rfl 17 _ _ _ _ ?_
      show (((nI e) ≤ (nI a) → (vp_in (nI s) 648 ∧ (vp_in (nI s) 648 ∧ (vp_in (nI s) 648 ∧ (Q none (setI (setI h 248 0 ((nI s).toNatClampNeg) (nI v)) 250 0 ((nI s).toNatClampNeg) ((hI h 250 0 ((nI s).toNatClampNeg)) + (nI 1))) ∧ h.1 = h.1))))) ∧ (¬ (nI e) ≤ (nI a) → CalI true d 112 [vr 233 0, vi (nI p), vi (nI a)] h h.1 (fun x2 s1 => (¬ (nI 1000003) = 0 ∧ Sat true (d + 1) 150 h.1 Q 20 [some (vr 233 0), some (vi (nI s)), some (vi (nI p)), some (vi fr), some (vi (nI e)), some (vi ((((nI 31) * (nI v)) + x2) - (((nI 31) * (nI v)) + x2) / (nI 1000003) * (nI 1000003))), some (vi ((nI a) + nI 1))] [] s1))))
      refine br_le (by omega) (by omega) (fun q => by omega) (fun _ => ?_)
      refine cal_i ss rfl ⟨by decide, ?_⟩
      rw [mulN, addN, remD (by omega), addN]
      exact kq
  refine EV_of mt_150 (Nat.le_of_ble_eq_true rfl) fun Q hq => ?_
  refine wp_ok (cut := [20]) ma_150 rfl 13 _ _ _ _ ?_
  show (vp_in (nI s) 648 ∧ (¬ (nI 1000003) = 0 ∧ Sat true (d + 1) 150 h.1 Q 20 [some (vr 233 0), some (vi (nI s)), some (vi (nI p)), some (vi (nI a)), some (vi (nI e)), some (vi ((((nI 31) * (hI h 248 0 ((nI s).toNatClampNeg))) + (nI 59)) - (((nI 31) * (hI h 248 0 ((nI s).toNatClampNeg))) + (nI 59)) / (nI 1000003) * (nI 1000003))), some (vi (nI a))] [] h))
  rw [ix (by omega), hg, mulN, addN, remD (by omega)]
  exact ⟨inb (by omega) (by omega), by decide, loop w a _ (dg g w) hw ht he.symm (Nat.mod_lt _ (by decide)) rfl (nI a) Q hq⟩
