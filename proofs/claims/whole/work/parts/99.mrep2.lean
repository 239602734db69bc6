/-! the model: layRepair -/
def SRp (f k : Nat) : Prop := f = 263 ∨ (f = 233 ∧ (k = 39 ∨ k = 40 ∨ k = 41))
theorem hdW_none {a : Anc} : ∀ (hs : List Hd) (i : Nat), i + hs.length < 1000 → hdW a hs i = (-6) → ∀ y ∈ hs, y.2.2.1 ≠ a := by
  intro hs
  induction hs with
  | nil => intro i _ _ y hy; cases hy
  | cons z r ih =>
    intro i hi h y hy
    rw [List.length_cons] at hi
    unfold hdW at h
    by_cases c : z.2.2.1 = a
    · rw [if_pos c] at h
      exact absurd h (n6 (by omega))
    · rw [if_neg c] at h
      cases hy with
      | head => exact c
      | tail _ w => exact ih (i + 1) (by omega) h y w
theorem mvB_n (ls : List Line) (y : Hd) : mvB ls y none = false := by
  unfold mvB
  cases y.2.2.2 <;> rfl
abbrev rpL (p l x t : Nat) (b : Bool) (g : Int32) (q : Nat) (x8 x9 x10 x11 : Option AV) : List (Option AV) := [some (vr 233 0), some (vi (nI p)), some (vi (nI l)), some (vi (nI x)), some (vi (nI t)), some (vi (bI b)), some (vi g), some (vi (nI q)), x8, x9, x10, x11]
section
variable {σ : Hp} {P : Nat → List Line} {X : Nat → XA} {rs : List (Pl × Pl)} {es : List En} {Q : Option AV → Hp → Prop} {d : Nat} {p l : Nat}
theorem LdX_rp {h : Hp} (hP : gP P) (hX : ∀ p, p < 12 → XFin P p (X p) ∧ (X p).2.2.1.length ≤ 100) (f : FrM SRp σ h) (ld : LdX σ P X) : LdX h P X := LdX_fr hP hX f (fun p f k _ w => by unfold Reg at w; unfold SRp; omega) (by unfold SRp; omega) ld
set_option maxRecDepth 6000 in
/-- the headings of a page are offered -/
theorem s_rpHeads (ms : MS σ P X rs es) (ld : LdX σ P X) {x t q : Nat} {a : Anc} {dg : Option Nat} (hx : x < 12) (hq12 : q < 12) (ht : t + 12 ≤ 20448) (ga : gAnc a) (hr : RowA (hI σ 245 0) t (txAnc a)) (hdg : ∀ g, dg = some g → g < 1000003) (hng : q = x → ∀ y ∈ (X q).2.2.1, y.2.2.1 ≠ a) (kq : ∀ b h x8 x9 x10 x11, MnM h b → FrM SRp σ h → b = b → Sat true (d + 6) 192 σ.1 Q 68 (rpL p l x t true (dg6 dg) (q + 1) x8 x9 x10 x11) [] h → True) : ∀ (tl c : List Hd) (b : Bs) (h : Hp) (x8 x10 x11 : Option AV), (X q).2.2.1 = c ++ tl → MnM h b → FrM SRp σ h → (∀ h x8 x9 x10 x11, MnM h (ofH (P q) a dg q (exN q x) tl c.length b) → FrM SRp σ h → Sat true (d + 6) 192 σ.1 Q 68 (rpL p l x t true (dg6 dg) (q + 1) x8 x9 x10 x11) [] h) → Sat true (d + 6) 192 σ.1 Q 139 (rpL p l x t true (dg6 dg) q x8 (some (vi (nI c.length))) x10 x11) [] h := by
  intro tl
  have h100 := (ms.2.1 q hq12).2
  induction tl with
  | nil =>
    intro c b h x8 x10 x11 ec mb f kn
    rw [List.append_nil] at ec
    refine Sat_no 8 (Sat_no 10 (Sat_no 11 ?_))
    have e241 : hI h 241 0 q = nI c.length := by rw [f.2.2.2 241 0 q (fun w => by have w := w.2; unfold SRp at w; omega), (ld.2 q hq12).1.1, ec]
    have k1 := kn h none (some (vi (nI c.length))) none none mb f
    show Sat true (d + 6) 192 σ.1 Q 139 (rpL p l x t true (dg6 dg) q none (some (vi (nI c.length))) none none) [] h
    refine wp_ok (cut := [68, 139, 185, 212]) ma_192 rfl 23 _ _ _ _ ?_
    show (vp_in (nI q) 12 ∧ (((hI h 241 0 ((nI q).toNatClampNeg)) ≤ (nI c.length) → Sat true (d + 6) 192 σ.1 Q 68 [some (vr 233 0), some (vi (nI p)), some (vi (nI l)), some (vi (nI x)), some (vi (nI t)), some (vi (bI true)), some (vi (dg6 dg)), some (vi ((nI q) + nI 1)), none, some (vi (nI c.length)), none, none] [] h) ∧ (¬ (hI h 241 0 ((nI q).toNatClampNeg)) ≤ (nI c.length) → (((bI true) = 0 → Sat true (d + 6) 192 σ.1 Q 68 [some (vr 233 0), some (vi (nI p)), some (vi (nI l)), some (vi (nI x)), some (vi (nI t)), some (vi (bI true)), some (vi (dg6 dg)), some (vi ((nI q) + nI 1)), none, some (vi (nI c.length)), none, none] [] h) ∧ (¬ (bI true) = 0 → CalI true (d + 5) 144 [vi (nI q), vi (nI c.length)] h σ.1 (fun x2 s1 => CalI true (d + 5) 188 [vr 233 0, vi (nI t), vi x2] s1 σ.1 (fun x4 s3 => ((¬ (nI q) = (nI x) → Sat true (d + 6) 192 σ.1 Q 185 [some (vr 233 0), some (vi (nI p)), some (vi (nI l)), some (vi (nI x)), some (vi (nI t)), some (vi (bI true)), some (vi (dg6 dg)), some (vi (nI q)), none, some (vi (nI c.length)), some (vi (((nI 2) * x4) + (nI 4))), none] [] s3) ∧ ((nI q) = (nI x) → Sat true (d + 6) 192 σ.1 Q 185 [some (vr 233 0), some (vi (nI p)), some (vi (nI l)), some (vi (nI x)), some (vi (nI t)), some (vi (bI true)), some (vi (dg6 dg)), some (vi (nI q)), none, some (vi (nI c.length)), some (vi (((nI 2) * x4) + (nI 0))), none] [] s3)))))))))
    rw [ix (by omega), e241, addN]
    exact ⟨inb hq12 (by omega), fun _ => k1, fun g => absurd (Int32.le_refl _) g⟩
  | cons y tl ih =>
    intro c b h x8 x10 x11 ec mb f kn
    refine Sat_no 8 (Sat_no 10 (Sat_no 11 ?_))
    have hlen : (X q).2.2.1.length = c.length + (tl.length + 1) := by rw [ec, List.length_append, List.length_cons]
    have hy : (X q).2.2.1[c.length]? = some y := by rw [ec, List.getElem?_append_right (Nat.le_refl _), Nat.sub_self]; rfl
    have e241 : hI h 241 0 q = nI (c.length + (tl.length + 1)) := by rw [f.2.2.2 241 0 q (fun w => by have w := w.2; unfold SRp at w; omega), (ld.2 q hq12).1.1, hlen]
    have e245 : hI h 245 0 = hI σ 245 0 := f.fam (fun k => by unfold SRp; omega) 0
    obtain ⟨y1, y2, y3, y4, y5, y6⟩ := (ld.2 q hq12).1.2.1 c.length y hy
    have la := txAnc_le2 ga
    have ly := txAnc_le2 y5
    have dl : dist (txAnc a) (txAnc y.2.2.1) ≤ 22 := by
      have := dR_len (txAnc a) (txAnc y.2.2.1) (txAnc a).length (txAnc y.2.2.1).length
      unfold dist
      omega
    have ch := m_changes (σ := h) (d + 4) (o := t) (t := 12 * (100 * q + c.length)) ht (by omega) la.2 ly.2 (txAnc_lt ga) (txAnc_lt y5) (by rw [e245]; exact hr) (by rw [e245]; exact y3)
    have eN : exN q x ≤ 4 := by unfold exN; split <;> omega
    -- behind the offer
    have nx : ∀ h' x8 x10 x11, MnM h' (ofF b (prH (P q) a dg (exN q x) y) q (nI c.length) (some y.2.2.1)) → FrM SRp σ h' → Sat true (d + 6) 192 σ.1 Q 139 (rpL p l x t true (dg6 dg) q x8 (some (vi (nI (c.length + 1)))) x10 x11) [] h' := by
      intro h' x8 x10 x11 m1 m2
      have := ih (c ++ [y]) _ h' x8 x10 x11 (by rw [ec, List.append_assoc]; rfl) m1 m2 (fun h x8 x9 x10 x11 k1 k2 => kn h x8 x9 x10 x11 (by rw [List.length_append] at k1; exact k1) k2)
      rw [List.length_append] at this
      exact this
    -- the price is known, and whether the section was moved
    have s212 : ∀ h', MnM h' b → FrM SRp σ h' → Sat true (d + 6) 192 σ.1 Q 212 (rpL p l x t true (dg6 dg) q none (some (vi (nI c.length))) (some (vi (nI (2 * dist (txAnc a) (txAnc y.2.2.1) + exN q x)))) (some (vi (bI (mvB (P q) y dg))))) [] h' := by
      intro h' m1 m2
      refine wp_ok (cut := [68, 139]) ma_192 rfl 12 _ _ _ _ ?_
      show (((bI (mvB (P q) y dg)) = 0 → CalV true (d + 5) 191 [vr 233 0, vi (nI (2 * dist (txAnc a) (txAnc y.2.2.1) + exN q x)), vi (nI q), vi (nI c.length)] h' σ.1 (fun s1 => Sat true (d + 6) 192 σ.1 Q 139 [some (vr 233 0), some (vi (nI p)), some (vi (nI l)), some (vi (nI x)), some (vi (nI t)), some (vi (bI true)), some (vi (dg6 dg)), some (vi (nI q)), none, some (vi ((nI c.length) + nI 1)), some (vi (nI (2 * dist (txAnc a) (txAnc y.2.2.1) + exN q x))), some (vi (bI (mvB (P q) y dg)))] [] s1)) ∧ (¬ (bI (mvB (P q) y dg)) = 0 → CalI true (d + 5) 187 [vi (nI (2 * dist (txAnc a) (txAnc y.2.2.1) + exN q x)), vi (nI 1)] h' σ.1 (fun x3 s2 => CalV true (d + 5) 191 [vr 233 0, vi x3, vi (nI q), vi (nI c.length)] s2 σ.1 (fun s4 => Sat true (d + 6) 192 σ.1 Q 139 [some (vr 233 0), some (vi (nI p)), some (vi (nI l)), some (vi (nI x)), some (vi (nI t)), some (vi (bI true)), some (vi (dg6 dg)), some (vi (nI q)), none, some (vi ((nI c.length) + nI 1)), some (vi (nI (2 * dist (txAnc a) (txAnc y.2.2.1) + exN q x))), some (vi (bI (mvB (P q) y dg)))] [] s4))))
      rw [addN]
      unfold prH at nx
      refine brI (fun g => ?_) (fun g => ?_)
      · rw [if_neg (by rw [g]; exact Bool.false_ne_true)] at nx
        exact cp_v (m_offer (d + 5) (some y.2.2.1) m1 (by omega)) m2.1 (fun h2 q2 e2 => nx h2 _ _ _ q2.1 (m2.tr (q2.2.mo fun f k w => Or.inr w)))
      · rw [if_pos g] at nx
        have p1 : 1 ≤ 2 * dist (txAnc a) (txAnc y.2.2.1) + exN q x := by
          refine Classical.byContradiction fun w => ?_
          have d0 : dist (txAnc a) (txAnc y.2.2.1) = 0 := by omega
          have e0 : exN q x = 0 := by omega
          have qx : q = x := by
            unfold exN at e0
            by_cases c : q = x
            · exact c
            · rw [if_neg c] at e0; omega
          exact hng qx y (List.mem_of_getElem? hy) ((txAnc_inj ga y5).mp (dist_0.mp d0)).symm
        refine cal_i (m_lesser (d + 5) h' (by omega) (by omega)) m2.1 ?_
        rw [Nat.min_eq_right p1]
        exact cp_v (m_offer (d + 5) (some y.2.2.1) m1 (by omega)) m2.1 (fun h2 q2 e2 => nx h2 _ _ _ q2.1 (m2.tr (q2.2.mo fun f k w => Or.inr w)))
    have s185 : ∀ h', MnM h' b → FrM SRp σ h' → Sat true (d + 6) 192 σ.1 Q 185 (rpL p l x t true (dg6 dg) q none (some (vi (nI c.length))) (some (vi (nI (2 * dist (txAnc a) (txAnc y.2.2.1) + exN q x)))) none) [] h' := by
      intro h' m1 m2
      have k := s212 h' m1 m2
      refine wp_ok (cut := [68, 139, 212]) ma_192 rfl 12 _ _ _ _ ?_
      show (((dg6 dg) = (-6) → Sat true (d + 6) 192 σ.1 Q 212 [some (vr 233 0), some (vi (nI p)), some (vi (nI l)), some (vi (nI x)), some (vi (nI t)), some (vi (bI true)), some (vi (dg6 dg)), some (vi (nI q)), none, some (vi (nI c.length)), some (vi (nI (2 * dist (txAnc a) (txAnc y.2.2.1) + exN q x))), some (vi (nI 0))] [] h') ∧ (¬ (dg6 dg) = (-6) → CalI true (d + 5) 190 [vr 233 0, vi (nI q), vi (nI c.length), vi (dg6 dg)] h' σ.1 (fun x2 s1 => ((x2 = 0 → Sat true (d + 6) 192 σ.1 Q 212 [some (vr 233 0), some (vi (nI p)), some (vi (nI l)), some (vi (nI x)), some (vi (nI t)), some (vi (bI true)), some (vi (dg6 dg)), some (vi (nI q)), none, some (vi (nI c.length)), some (vi (nI (2 * dist (txAnc a) (txAnc y.2.2.1) + exN q x))), some (vi (nI 0))] [] s1) ∧ (¬ x2 = 0 → Sat true (d + 6) 192 σ.1 Q 212 [some (vr 233 0), some (vi (nI p)), some (vi (nI l)), some (vi (nI x)), some (vi (nI t)), some (vi (bI true)), some (vi (dg6 dg)), some (vi (nI q)), none, some (vi (nI c.length)), some (vi (nI (2 * dist (txAnc a) (txAnc y.2.2.1) + exN q x))), some (vi (nI 1))] [] s1)))))
      cases hd : dg with
      | none =>
        rw [hd, mvB_n] at k
        exact ⟨fun _ => k, fun g => absurd rfl g⟩
      | some g =>
        have g3 := hdg g hd
        rw [hd] at k
        refine ⟨fun w => absurd w (n6 (by omega)), fun _ => cal_i (m_isSectionWith (d + 5) ms.1 ms.2.1 (LdX_rp ms.1 ms.2.1 m2 ld) hq12 hy g3) m2.1 (brI (fun w => ?_) (fun w => ?_))⟩
        · rw [w] at k
          exact k
        · rw [w] at k
          exact k
    show Sat true (d + 6) 192 σ.1 Q 139 (rpL p l x t true (dg6 dg) q none (some (vi (nI c.length))) none none) [] h
    refine wp_ok (cut := [68, 139, 185, 212]) ma_192 rfl 23 _ _ _ _ ?_
    show (vp_in (nI q) 12 ∧ (((hI h 241 0 ((nI q).toNatClampNeg)) ≤ (nI c.length) → Sat true (d + 6) 192 σ.1 Q 68 [some (vr 233 0), some (vi (nI p)), some (vi (nI l)), some (vi (nI x)), some (vi (nI t)), some (vi (bI true)), some (vi (dg6 dg)), some (vi ((nI q) + nI 1)), none, some (vi (nI c.length)), none, none] [] h) ∧ (¬ (hI h 241 0 ((nI q).toNatClampNeg)) ≤ (nI c.length) → (((bI true) = 0 → Sat true (d + 6) 192 σ.1 Q 68 [some (vr 233 0), some (vi (nI p)), some (vi (nI l)), some (vi (nI x)), some (vi (nI t)), some (vi (bI true)), some (vi (dg6 dg)), some (vi ((nI q) + nI 1)), none, some (vi (nI c.length)), none, none] [] h) ∧ (¬ (bI true) = 0 → CalI true (d + 5) 144 [vi (nI q), vi (nI c.length)] h σ.1 (fun x2 s1 => CalI true (d + 5) 188 [vr 233 0, vi (nI t), vi x2] s1 σ.1 (fun x4 s3 => ((¬ (nI q) = (nI x) → Sat true (d + 6) 192 σ.1 Q 185 [some (vr 233 0), some (vi (nI p)), some (vi (nI l)), some (vi (nI x)), some (vi (nI t)), some (vi (bI true)), some (vi (dg6 dg)), some (vi (nI q)), none, some (vi (nI c.length)), some (vi (((nI 2) * x4) + (nI 4))), none] [] s3) ∧ ((nI q) = (nI x) → Sat true (d + 6) 192 σ.1 Q 185 [some (vr 233 0), some (vi (nI p)), some (vi (nI l)), some (vi (nI x)), some (vi (nI t)), some (vi (bI true)), some (vi (dg6 dg)), some (vi (nI q)), none, some (vi (nI c.length)), some (vi (((nI 2) * x4) + (nI 0))), none] [] s3)))))))))
    rw [ix (by omega), e241]
    refine ⟨inb hq12 (by omega), br_le (by omega) (by omega) (fun g => by omega) (fun _ => b_t (cal_i (m_anchorAt (d + 5) h q c.length) f.1 (cp_i ch f.1 (fun h1 q1 e1 => ?_))))⟩
    have f1 : FrM SRp σ h1 := f.tr (q1.mo fun f k w => Or.inl w)
    have z : ∀ k, hI h1 233 0 k = hI h 233 0 k := fun k => q1.2.2.2 233 0 k fun w => by have w : 233 = 263 := w.2; omega
    have m1 : MnM h1 b := by
      unfold MnM at mb ⊢
      rw [z, z, z]
      exact mb
    have k := s185 h1 m1 f1
    rw [mulN, addN, addN]
    refine br_ne (by omega) (by omega) (fun w => ?_) (fun w => ?_)
    · have e : exN q x = 4 := if_neg w
      rw [e] at k
      exact k
    · have e : exN q x = 0 := if_pos w
      rw [e] at k
      exact k
end
