/-! a target is written: the class's writePlace; what a repair and a way lead to -/
noncomputable def wrX (x : DB) (p : Nat) (k : Lk) (w : List Nat) : DB := (updP x.1 p (wrL (x.1 p) k w), x.2.1, x.2.2)
def lenX (x : DB) (p : Nat) (k : Lk) (w : List Nat) : Nat := (txPg (x.1 p)).length + w.length - (k.2.2.2 - k.2.2.1)
theorem CS_tg {σ h : Hp} {P : Nat → List Line} {X : Nat → XA} {rs : List (Pl × Pl)} {es : List En} (f : Fr STg σ h) (cs : CS σ P X rs es) : CS h P X rs es := by
  refine ⟨fun p hp => SrcC_fr f (fun w => by unfold STg at w; omega) (fun w => by unfold STg at w; omega) (cs.1 p hp), fun p hp => OutC_fr f (fun g a b w => by unfold STg at w; omega) (cs.2.1 p hp), fun p hp => ExC_cong (fun g a b => ?_) (cs.2.2.1 p hp), RdsC_fr f (fun g a b w => by unfold STg at w; omega) cs.2.2.2.1, EnsC_fr f (fun g a b w => by unfold STg at w; omega) cs.2.2.2.2⟩
  have := f.2 g p (fun w => by unfold STg at w; omega)
  exact ⟨this.1, this.2.1⟩
section
variable {σ : Hp} {m n L p j q : Nat} {t : Nat → Nat} {D : List DB} {x : DB} {k : Lk} {an : Option Anc}
theorem e_wpT (d : Nat) {b : Int32} (c : InC σ m n t D x) (hp : p < 12) (hk : (lkPg p 0 (x.1 p))[j]? = some k) (hq12 : q < 12) (ga : gAO an) (hl : 160 < lenX x p k (tgW p q an)) : PI (d + 3) 105 [vr 1 0, vi (nI p), vi (nI j), vi (nI q), vl (lN (anO an)), vi b] σ (-4) (fun h => InC h m n t D x ∧ Fi CF σ h) := by
  refine PI_of mt_105 (Nat.le_of_ble_eq_true rfl) fun Q hq => ?_
  have wl := tgW_len (p := p) (q := q) ga
  have h160 := (gP_of c.2.1 p hp).2
  have hl2 : lenX x p k (tgW p q an) ≤ 173 := by unfold lenX; omega
  refine wp_ok (cut := [25]) ma_105 rfl 13 _ _ _ _ ?_
  show CalI true (d + 2) 56 [vr 7 0, vi (nI p), vi (nI j), vi (nI q), vl (lN (anO an))] σ σ.1 (fun x2 s1 => ((x2 ≤ (nI 160) → Sat true (d + 3) 105 σ.1 Q 25 [some (vr 1 0), some (vi (nI p)), some (vi (nI j)), some (vi (nI q)), some (vl (lN (anO an))), none, some (vi b), some (vi x2)] [] s1) ∧ (¬ x2 ≤ (nI 160) → (Q (some (vi (-4))) s1 ∧ s1.1 = σ.1))))
  refine cp_i (e_spellTarget d c.2.1 hp hk hq12 ga) rfl (fun h0 q0 e0 => ?_)
  have e : (txPg (x.1 p)).length + (tgW p q an).length - (k.2.2.2 - k.2.2.1) = lenX x p k (tgW p q an) := rfl
  rw [e]
  exact br_le (by omega) (by omega) (fun g => by omega) (fun _ => ⟨hq h0 ⟨InC_now q0.2 (fun g i w => by unfold STg at w; omega) (CS_tg q0.2 c.2.1) c, Fr_CF q0.2 fun g i w => by unfold STg at w; omega⟩, e0⟩)
theorem e_wpY (d : Nat) (hB : σ.1 = Bm m L) (c : InC σ m n t D x) (gx : gX x.1) (hp : p < 12) (hk : (lkPg p 0 (x.1 p))[j]? = some k) (hq12 : q < 12) (ga : gAO an) (hl : lenX x p k (tgW p q an) ≤ 160) : RI (d + 7) 105 [vr 1 0, vi (nI p), vi (nI j), vi (nI q), vl (lN (anO an)), vi (nI 1)] σ (Bm (kpM m D) L) (nI (lenX x p k (tgW p q an))) (fun h => InC h (kpM m D) n t (nxD D x) (wrX x p k (tgW p q an)) ∧ gX (wrX x p k (tgW p q an)).1 ∧ Fi CF σ h) := by
  have hB' : leB σ.1 (Bm (kpM m D) L) := by rw [hB]; exact Bm_le L (kpM_ge m D)
  refine RI_of mt_105 (Nat.le_of_ble_eq_true rfl) hB' fun Q hq => ?_
  have wl := tgW_len (p := p) (q := q) ga
  refine wp_ok (cut := []) ma_105 rfl 22 _ _ _ _ ?_
  show CalI true (d + 6) 56 [vr 7 0, vi (nI p), vi (nI j), vi (nI q), vl (lN (anO an))] σ (Bm (kpM m D) L) (fun x2 s1 => ((x2 ≤ (nI 160) → (((nI 1) = 0 → CalV true (d + 6) 57 [vr 7 0, vi (nI p), vi (nI j)] s1 (Bm (kpM m D) L) (fun s3 => (Q (some (vi x2)) s3 ∧ s3.1 = Bm (kpM m D) L))) ∧ (¬ (nI 1) = 0 → CalV true (d + 6) 106 [vr 1 0] s1 (Bm (kpM m D) L) (fun s4 => CalV true (d + 6) 57 [vr 7 0, vi (nI p), vi (nI j)] s4 (Bm (kpM m D) L) (fun s5 => (Q (some (vi x2)) s5 ∧ s5.1 = Bm (kpM m D) L)))))) ∧ (¬ x2 ≤ (nI 160) → (Q (some (vi (-4))) s1 ∧ s1.1 = Bm (kpM m D) L))))
  refine dp_i (e_spellTarget (d + 4) c.2.1 hp hk hq12 ga) hB' (fun h0 q0 e0 => ?_)
  have e : (txPg (x.1 p)).length + (tgW p q an).length - (k.2.2.2 - k.2.2.1) = lenX x p k (tgW p q an) := rfl
  rw [e]
  have c0 : InC h0 m n t D x := InC_now q0.2 (fun g i w => by unfold STg at w; omega) (CS_tg q0.2 c.2.1) c
  refine br_le (by omega) (by omega) (fun _ => ⟨fun g => absurd g (by decide), fun _ => cr_v (e_keepState (d + 4) c0.2.2 (e0.trans hB) (DBC_of c0.2.1)) (leB.rfl' _) (fun h1 q1 e1 => ?_)⟩) (fun g => by omega)
  have c1 := InC_keep c0 q1
  have l1 : leB h1.1 (Bm (kpM m D) L) := by rw [e1]; exact leB.rfl' _
  have tg : TgC h1 (tgW p q an) := ⟨by rw [(q1.2.2.1 7 0 (fun w => by unfold SKp at w; omega)).1]; exact q0.1.1, by rw [(q1.2.2.1 20 0 (fun w => by unfold SKp at w; omega)).1]; exact q0.1.2⟩
  refine dp_v (e_writeTarget d c1.2.1 gx hp hk (tg_g (p := p) hq12 ga) wl tg hl) l1 (fun h2 q2 e2 => ⟨hq h2 ⟨?_, q2.2.1, ((Fr_CF q0.2 fun g i w => by unfold STg at w; omega).tr (SKp_CF q1.2.2.1)).tr (Fr_CF q2.2.2 fun g i w => by unfold SSo at w; omega)⟩, e2.trans e1⟩)
  exact InC_now q2.2.2 (fun g i w => by unfold SSo at w; omega) q2.1 c1
theorem e_wpN (d : Nat) (c : InC σ m n t D x) (gx : gX x.1) (hp : p < 12) (hk : (lkPg p 0 (x.1 p))[j]? = some k) (hq12 : q < 12) (ga : gAO an) (hl : lenX x p k (tgW p q an) ≤ 160) : PI (d + 7) 105 [vr 1 0, vi (nI p), vi (nI j), vi (nI q), vl (lN (anO an)), vi (nI 0)] σ (nI (lenX x p k (tgW p q an))) (fun h => InC h m n t D (wrX x p k (tgW p q an)) ∧ gX (wrX x p k (tgW p q an)).1 ∧ Fi CF σ h) := by
  refine PI_of mt_105 (Nat.le_of_ble_eq_true rfl) fun Q hq => ?_
  have wl := tgW_len (p := p) (q := q) ga
  refine wp_ok (cut := []) ma_105 rfl 22 _ _ _ _ ?_
  show CalI true (d + 6) 56 [vr 7 0, vi (nI p), vi (nI j), vi (nI q), vl (lN (anO an))] σ σ.1 (fun x2 s1 => ((x2 ≤ (nI 160) → (((nI 0) = 0 → CalV true (d + 6) 57 [vr 7 0, vi (nI p), vi (nI j)] s1 σ.1 (fun s3 => (Q (some (vi x2)) s3 ∧ s3.1 = σ.1))) ∧ (¬ (nI 0) = 0 → CalV true (d + 6) 106 [vr 1 0] s1 σ.1 (fun s4 => CalV true (d + 6) 57 [vr 7 0, vi (nI p), vi (nI j)] s4 σ.1 (fun s5 => (Q (some (vi x2)) s5 ∧ s5.1 = σ.1)))))) ∧ (¬ x2 ≤ (nI 160) → (Q (some (vi (-4))) s1 ∧ s1.1 = σ.1))))
  refine cp_i (e_spellTarget (d + 4) c.2.1 hp hk hq12 ga) rfl (fun h0 q0 e0 => ?_)
  have e : (txPg (x.1 p)).length + (tgW p q an).length - (k.2.2.2 - k.2.2.1) = lenX x p k (tgW p q an) := rfl
  rw [e]
  have c0 : InC h0 m n t D x := InC_now q0.2 (fun g i w => by unfold STg at w; omega) (CS_tg q0.2 c.2.1) c
  refine br_le (by omega) (by omega) (fun _ => ⟨fun _ => cp_v (e_writeTarget d c0.2.1 gx hp hk (tg_g (p := p) hq12 ga) wl q0.1 hl) e0 (fun h2 q2 e2 => ⟨hq h2 ⟨?_, q2.2.1, (Fr_CF q0.2 fun g i w => by unfold STg at w; omega).tr (Fr_CF q2.2.2 fun g i w => by unfold SSo at w; omega)⟩, e2⟩), fun g => absurd rfl g⟩) (fun g => by omega)
  exact InC_now q2.2.2 (fun g i w => by unfold SSo at w; omega) q2.1 c0
end
/-! the heading of the place is its anchor -/
section
variable {P : Nat → List Line} {X : Nat → XA}
def BsI (X : Nat → XA) (b : Bs) : Prop := b.2.1 < 12 ∧ hdAn (X b.2.1).2.2.1 b.2.2.1 b.2.2.2
theorem ofF_I {b : Bs} {c pg : Nat} {hd : Int32} {an : Option Anc} (h : BsI X b) (g : BsI X (c, pg, hd, an)) : BsI X (ofF b c pg hd an) := by
  unfold ofF
  split
  · exact g
  · exact h
theorem ofH_I (ls : List Line) (a : Anc) (dg : Option Nat) {p : Nat} (hp : p < 12) (e : Nat) : ∀ (r c : List Hd) (b : Bs), (X p).2.2.1 = c ++ r → BsI X b → BsI X (ofH ls a dg p e r c.length b) := by
  intro r
  induction r with
  | nil => intro c b _ h; exact h
  | cons y r ih =>
    intro c b hc h
    unfold ofH
    have := ih (c ++ [y]) (ofF b (prH ls a dg e y) p (nI c.length) (some y.2.2.1)) (by rw [List.append_assoc]; exact hc) (ofF_I h ⟨hp, Or.inr ⟨c.length, y, by show (X p).2.2.1[c.length]? = some y; rw [hc, List.getElem?_append_right (Nat.le_refl _), Nat.sub_self]; rfl, rfl, rfl⟩⟩)
    rw [List.length_append] at this
    exact this
theorem ofA_I {x : Pl} (hx : x.1 < 12) (dg : Option Nat) : ∀ n, n ≤ 12 → BsI X (ofA P X x dg n) := by
  intro n
  induction n with
  | zero => intro _; exact ⟨hx, Or.inl ⟨rfl, rfl⟩⟩
  | succ n ih =>
    intro hn
    have h := ih (by omega)
    unfold ofA ofP
    split
    · exact h
    · split
      · exact ofF_I h ⟨by show n < 12; omega, Or.inl ⟨rfl, rfl⟩⟩
      · exact ofH_I _ _ _ (by omega) _ _ [] _ rfl (ofF_I h ⟨by show n < 12; omega, Or.inl ⟨rfl, rfl⟩⟩)
theorem hdAn_g {r : Nat} {hd : Int32} {an : Option Anc} (hP : gP P) (hr : r < 12) (hX : XFin P r (X r)) (h : hdAn (X r).2.2.1 hd an) : gAO an := by
  intro z hz
  rcases h with ⟨-, h⟩ | ⟨i, y, h1, -, h3⟩
  · rw [h] at hz; cases hz
  · rw [h3] at hz
    cases hz
    exact ((XFin_hd hP hr hX).2.2 i y h1).2.2.1
theorem rtGo_I {rs : List (Pl × Pl)} : ∀ (f : Nat) (seen : List Pl) (us : List Nat) (x : Pl), (rtGo P X rs f seen us x).1 ≤ 1 → hdAn (X (rtGo P X rs f seen us x).2.1.1).2.2.1 (rtGo P X rs f seen us x).2.2.1 (rtGo P X rs f seen us x).2.1.2 := by
  intro f
  induction f with
  | zero => intro seen us x h; exact absurd h (by show ¬ 2 ≤ 1; omega)
  | succ f ih =>
    intro seen us x h
    unfold rtGo at h ⊢
    split at h
    · exact absurd h (by show ¬ 2 ≤ 1; omega)
    · rename_i c1
      rw [if_neg c1]
      split at h
      · rename_i c2
        rw [if_pos c2]
        show hdAn (X x.1).2.2.1 (rtHd X x) x.2
        unfold rtGood at c2
        unfold rtHd
        cases e : x.2 with
        | none => exact Or.inl ⟨rfl, rfl⟩
        | some a =>
          rw [e] at c2
          have c3 : hdW a (X x.1).2.2.1 0 ≠ (-6) := of_decide_eq_true (Bool.and_eq_true_iff.mp c2).2
          rcases hdW_c a (X x.1).2.2.1 0 with w | ⟨k, y, w1, w2, w3⟩
          · exact absurd w c3
          · exact Or.inr ⟨k, y, w1, by show hdW a (X x.1).2.2.1 0 = nI k; rw [w3, Nat.zero_add], by rw [w2]⟩
      · rename_i c2
        rw [if_neg c2]
        split at h
        · exfalso
          have h : (if P x.1 = [] then 3 else 4) ≤ 1 := h
          split at h <;> omega
        · exact ih _ _ _ h
end
