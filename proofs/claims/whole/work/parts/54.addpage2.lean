/-! the class's Expansion.addPage: the loop, and the recursion -/
def APre (σ : Hp) (P : Nat → List Line) (r : Nat) (u : Nat → Int32) (p add : Nat) (rest : XS) (x : XA) (h : Hp) : Prop := okSt ((p, 0, add) :: rest) ∧ add ≤ 2 * rest.length ∧ XC h r u x ∧ UwC h r rest ∧ Fr (EF r) σ h ∧ x.1 < 100 ∧ (rest = [] → nOwn x.2.2.1 = 0)
def ACon (σ : Hp) (P : Nat → List Line) (r : Nat) (u : Nat → Int32) (d k : Nat) : Prop := ∀ (p add : Nat) (rest : XS) (x : XA) (h : Hp), rest.length + k = 12 → APre σ P r u p add rest x h → PV (d + k + 3) 9 [vr 32 r, vr 18 0, vi (nI p), vi (nI add), vi (nI rest.length)] h (fun h' => APost σ P r u ((p, 0, add) :: rest, x) rest (nOwn x.2.2.1) h')
section
variable {σ : Hp} {P : Nat → List Line} {r : Nat} {u : Nat → Int32} {Q : Option AV → Hp → Prop}
set_option maxRecDepth 6000 in
theorem s_apLoop (d k : Nat) (ih : ACon σ P r u d k) (hr : r < 12) (hP : gP P) (ho : OutsC σ P) {p add : Nat} {rest : XS} (hk : rest.length + (k + 1) = 12) (hok : okSt ((p, 0, add) :: rest)) (hadd : add ≤ 2 * rest.length) {c0 : XS × XA} {n0 : Nat} (hq : ∀ h, APost σ P r u c0 rest n0 h → Q none h) : ∀ (rl dl : List Line) (x : XA) (h : Hp), P p = dl ++ rl → XC h r u x → UwC h r ((p, dl.length, add) :: rest) → Fr (EF r) σ h → (rest = [] → nOwn x.2.2.1 = nHd dl) → (rest ≠ [] → nOwn x.2.2.1 = n0) → ((xTo P c0 ((p, dl.length, add) :: rest, x)) ∨ (100 ≤ x.1 ∧ ∃ st, xTo P c0 (st, x) ∧ xStep P (st, x) = none)) → Sat true (d + k + 3 + 1) 9 σ.1 Q 31 [some (vr 32 r), some (vr 18 0), some (vi (nI p)), some (vi (nI add)), some (vi (nI rest.length)), some (vr 21 p), some (vi (nI (nHd dl))), some (vi (nI dl.length)), none] [] h := by
  have hp : p < 12 := hok.1 _ List.mem_cons_self
  have hnp : onSt p rest = false := onSt_f.mpr fun e he g => (List.nodup_cons.mp hok.2).1 (List.mem_map.mpr ⟨e, he, g⟩)
  have hl80 := txPg_len (hP p hp).1
  have h160 := (hP p hp).2
  have hhd := nHd_b (hP p hp).1
  -- the end
  have ex : ∀ (dl : List Line) (x : XA) (h : Hp) (j : Nat), XC h r u x → UwC h r ((p, j, add) :: rest) → Fr (EF r) σ h → (rest ≠ [] → nOwn x.2.2.1 = n0) → ((x.1 < 100 ∧ xTo P c0 (rest, x)) ∨ (100 ≤ x.1 ∧ ∃ st, xTo P c0 (st, x) ∧ xStep P (st, x) = none)) → ∀ x6 x7 : Int32, Sat true (d + k + 3 + 1) 9 σ.1 Q 187 [some (vr 32 r), some (vr 18 0), some (vi (nI p)), some (vi (nI add)), some (vi (nI rest.length)), some (vr 21 p), some (vi x6), some (vi x7), none] [] h := fun dl x h j a b c e f x6 x7 => s_apExit hr hp rfl hnp a b c e f hq
  intro rl
  induction rl with
  | nil =>
    intro dl x h hls hx hu hf _ hno hto
    rw [List.append_nil] at hls
    have o1 : hI h 21 p 1 = nI (P p).length := (OI_fr hf (ho p hp)).2.1
    have x0 := hx.1
    have xl := hx.2.2.2.2.2.2.1
    have fin := ex dl x h dl.length hx hu hf hno (by
      by_cases q : x.1 < 100
      · refine Or.inl ⟨q, ?_⟩
        rcases hto with w | w
        · rw [← hls] at w
          exact w.tr (xTo.one (xStep_e q))
        · omega
      · refine Or.inr ⟨by omega, ?_⟩
        rcases hto with w | w
        · exact ⟨_, w, xStep_h (by omega)⟩
        · exact w.2)
    refine wp_ok (cut := [31, 187]) ma_9 rfl 49 _ _ _ _ ?_
    show (p < 12 ∧ (((hI h 21 p 1) ≤ (nI dl.length) → Sat true (d + k + 3 + 1) 9 σ.1 Q 187 [some (vr 32 r), some (vr 18 0), some (vi (nI p)), some (vi (nI add)), some (vi (nI rest.length)), some (vr 21 p), some (vi (nI (nHd dl))), some (vi (nI dl.length)), none] [] h) ∧ (¬ (hI h 21 p 1) ≤ (nI dl.length) → (r < 12 ∧ (((nI 100) ≤ (hI h 32 r 0) → Sat true (d + k + 3 + 1) 9 σ.1 Q 187 [some (vr 32 r), some (vr 18 0), some (vi (nI p)), some (vi (nI add)), some (vi (nI rest.length)), some (vr 21 p), some (vi (nI (nHd dl))), some (vi (nI dl.length)), none] [] h) ∧ (¬ (nI 100) ≤ (hI h 32 r 0) → (p < 12 ∧ (p < 12 ∧ (vp_in (nI dl.length) 80 ∧ ((¬ (hI h 22 p ((nI dl.length).toNatClampNeg)) = (-1) → (r < 12 ∧ (r < 12 ∧ (r < 12 ∧ (r < 12 ∧ (((hI h 22 p ((nI dl.length).toNatClampNeg)) = 0 → Sat true (d + k + 3 + 1) 9 σ.1 Q 31 [some (vr 32 r), some (vr 18 0), some (vi (nI p)), some (vi (nI add)), some (vi (nI rest.length)), some (vr 21 p), some (vi (nI (nHd dl))), some (vi ((nI dl.length) + nI 1)), some (vi (hI h 22 p ((nI dl.length).toNatClampNeg)))] [] (setI (setI h 32 r 0 ((hI h 32 r 0) + (nI 1))) 32 r 1 ((hI (setI h 32 r 0 ((hI h 32 r 0) + (nI 1))) 32 r 1) ||| ((nI 1) <<< ((nI p) &&& 31))))) ∧ (¬ (hI h 22 p ((nI dl.length).toNatClampNeg)) = 0 → (p < 12 ∧ (p < 12 ∧ (vp_in (nI dl.length) 80 ∧ ((¬ (nI rest.length) = 0 → (r < 12 ∧ CalV true (d + k + 3) 11 [vr 32 r, vl (hL h 23 p ((nI dl.length).toNatClampNeg)), vi ((hI h 22 p ((nI dl.length).toNatClampNeg)) + (nI add)), vi (nI p), vi (-6)] (setI (setI h 32 r 0 ((hI h 32 r 0) + (nI 1))) 32 r 1 ((hI (setI h 32 r 0 ((hI h 32 r 0) + (nI 1))) 32 r 1) ||| ((nI 1) <<< ((nI p) &&& 31)))) σ.1 (fun s1 => Sat true (d + k + 3 + 1) 9 σ.1 Q 31 [some (vr 32 r), some (vr 18 0), some (vi (nI p)), some (vi (nI add)), some (vi (nI rest.length)), some (vr 21 p), some (vi ((nI (nHd dl)) + nI 1)), some (vi ((nI dl.length) + nI 1)), some (vi (hI h 22 p ((nI dl.length).toNatClampNeg)))] [] s1))) ∧ ((nI rest.length) = 0 → (r < 12 ∧ CalV true (d + k + 3) 11 [vr 32 r, vl (hL h 23 p ((nI dl.length).toNatClampNeg)), vi ((hI h 22 p ((nI dl.length).toNatClampNeg)) + (nI add)), vi (nI p), vi (nI (nHd dl))] (setI (setI h 32 r 0 ((hI h 32 r 0) + (nI 1))) 32 r 1 ((hI (setI h 32 r 0 ((hI h 32 r 0) + (nI 1))) 32 r 1) ||| ((nI 1) <<< ((nI p) &&& 31)))) σ.1 (fun s2 => Sat true (d + k + 3 + 1) 9 σ.1 Q 31 [some (vr 32 r), some (vr 18 0), some (vi (nI p)), some (vi (nI add)), some (vi (nI rest.length)), some (vr 21 p), some (vi ((nI (nHd dl)) + nI 1)), some (vi ((nI dl.length) + nI 1)), some (vi (hI h 22 p ((nI dl.length).toNatClampNeg)))] [] s2)))))))))))))) ∧ ((hI h 22 p ((nI dl.length).toNatClampNeg)) = (-1) → (p < 12 ∧ (p < 12 ∧ (vp_in (nI dl.length) 80 ∧ (r < 12 ∧ CalI true (d + k + 3) 10 [vr 32 r, vr 18 0, vi (hI h 24 p ((nI dl.length).toNatClampNeg))] h σ.1 (fun x4 s3 => ((x4 = 0 → Sat true (d + k + 3 + 1) 9 σ.1 Q 31 [some (vr 32 r), some (vr 18 0), some (vi (nI p)), some (vi (nI add)), some (vi (nI rest.length)), some (vr 21 p), some (vi (nI (nHd dl))), some (vi ((nI dl.length) + nI 1)), some (vi (hI h 22 p ((nI dl.length).toNatClampNeg)))] [] s3) ∧ (¬ x4 = 0 → (r < 12 ∧ (r < 12 ∧ (p < 12 ∧ (p < 12 ∧ (vp_in (nI dl.length) 80 ∧ (p < 12 ∧ (p < 12 ∧ (vp_in (nI dl.length) 80 ∧ (r < 12 ∧ CalV true (d + k + 3) 9 [vr 32 r, vr 18 0, vi (hI s3 24 p ((nI dl.length).toNatClampNeg)), vi ((nI add) + (hI s3 25 p ((nI dl.length).toNatClampNeg))), vi ((nI rest.length) + (nI 1))] (setI s3 32 r 8 ((hI s3 32 r 8) + (nI 1))) σ.1 (fun s5 => Sat true (d + k + 3 + 1) 9 σ.1 Q 31 [some (vr 32 r), some (vr 18 0), some (vi (nI p)), some (vi (nI add)), some (vi (nI rest.length)), some (vr 21 p), some (vi (nI (nHd dl))), some (vi ((nI dl.length) + nI 1)), some (vi (hI h 22 p ((nI dl.length).toNatClampNeg)))] [] s5))))))))))))))))))))))))))))
    rw [o1, hls]
    exact ⟨hp, fun _ => fin _ _, fun g => absurd (Int32.le_refl _) g⟩
  | cons l rl ih2 =>
    intro dl x h hls hx hu hf hn1 hno hto
    have hx' := hx
    obtain ⟨x0, x1, x2, x8, x37, xhl, x100, x200⟩ := hx
    have hlen : (P p).length = dl.length + (rl.length + 1) := by rw [hls, List.length_append, List.length_cons]
    have hnh : nHd (P p) = nHd dl + (isHd l + nHd rl) := by rw [hls, nHd_app]; rfl
    have oi := OI_fr hf (ho p hp)
    have o1 : hI h 21 p 1 = nI (P p).length := oi.2.1
    have kd : KindC h p dl.length l := oi.2.2.1 dl.length l (by rw [hls, List.getElem?_append_right (Nat.le_refl _), Nat.sub_self]; rfl)
    have gl : gLine l := (hP p hp).1 l (by rw [hls]; exact List.mem_append.mpr (Or.inr List.mem_cons_self))
    have i1 : vp_in (nI dl.length) 80 := inb (by omega) (by omega)
    have rl12 : rest.length < 12 := by omega
    have hls2 : P p = (dl ++ [l]) ++ rl := by rw [hls, List.append_assoc]; rfl
    have len2 : (dl ++ [l]).length = dl.length + 1 := by rw [List.length_append]; rfl
    have nh2 : nHd (dl ++ [l]) = nHd dl + isHd l := by rw [nHd_app]; rfl
    by_cases hlt : 100 ≤ x.1
    · have fin := ex dl x h dl.length hx' hu hf hno (Or.inr ⟨hlt, by
        rcases hto with w | w
        · exact ⟨_, w, xStep_h hlt⟩
        · exact w.2⟩)
      refine wp_ok (cut := [31, 50, 187]) ma_9 rfl 8 _ _ _ _ ?_
      show (p < 12 ∧ (((hI h 21 p 1) ≤ (nI dl.length) → Sat true (d + k + 3 + 1) 9 σ.1 Q 187 [some (vr 32 r), some (vr 18 0), some (vi (nI p)), some (vi (nI add)), some (vi (nI rest.length)), some (vr 21 p), some (vi (nI (nHd dl))), some (vi (nI dl.length)), none] [] h) ∧ (¬ (hI h 21 p 1) ≤ (nI dl.length) → (r < 12 ∧ (((nI 100) ≤ (hI h 32 r 0) → Sat true (d + k + 3 + 1) 9 σ.1 Q 187 [some (vr 32 r), some (vr 18 0), some (vi (nI p)), some (vi (nI add)), some (vi (nI rest.length)), some (vr 21 p), some (vi (nI (nHd dl))), some (vi (nI dl.length)), none] [] h) ∧ (¬ (nI 100) ≤ (hI h 32 r 0) → Sat true (d + k + 3 + 1) 9 σ.1 Q 50 [some (vr 32 r), some (vr 18 0), some (vi (nI p)), some (vi (nI add)), some (vi (nI rest.length)), some (vr 21 p), some (vi (nI (nHd dl))), some (vi (nI dl.length)), none] [] h))))))
      rw [o1, x0]
      exact ⟨hp, br_le (by omega) (by omega) (fun g => by omega) (fun _ => ⟨hr, br_le (by omega) (by omega) (fun _ => fin _ _) (fun g => by omega)⟩)⟩
    · have hlt : x.1 < 100 := by omega
      have st0 : xTo P c0 ((p, dl.length, add) :: rest, x) := by
        rcases hto with w | w
        · exact w
        · omega
      have st1 := st0.tr (xTo.one (xStep_l (rl := rl) hls hlt))
      refine wp_ok (cut := [31, 50, 187]) ma_9 rfl 8 _ _ _ _ ?_
      show (p < 12 ∧ (((hI h 21 p 1) ≤ (nI dl.length) → Sat true (d + k + 3 + 1) 9 σ.1 Q 187 [some (vr 32 r), some (vr 18 0), some (vi (nI p)), some (vi (nI add)), some (vi (nI rest.length)), some (vr 21 p), some (vi (nI (nHd dl))), some (vi (nI dl.length)), none] [] h) ∧ (¬ (hI h 21 p 1) ≤ (nI dl.length) → (r < 12 ∧ (((nI 100) ≤ (hI h 32 r 0) → Sat true (d + k + 3 + 1) 9 σ.1 Q 187 [some (vr 32 r), some (vr 18 0), some (vi (nI p)), some (vi (nI add)), some (vi (nI rest.length)), some (vr 21 p), some (vi (nI (nHd dl))), some (vi (nI dl.length)), none] [] h) ∧ (¬ (nI 100) ≤ (hI h 32 r 0) → Sat true (d + k + 3 + 1) 9 σ.1 Q 50 [some (vr 32 r), some (vr 18 0), some (vi (nI p)), some (vi (nI add)), some (vi (nI rest.length)), some (vr 21 p), some (vi (nI (nHd dl))), some (vi (nI dl.length)), none] [] h))))))
      rw [o1, x0]
      refine ⟨hp, br_le (by omega) (by omega) (fun g => by omega) (fun _ => ⟨hr, br_le (by omega) (by omega) (fun g => by omega) (fun _ => ?_)⟩)⟩
      -- one line more is counted
      have x1c : ∀ y : Int32, y = x.2.1 ||| bit p → XC (setI (setI h 32 r 0 (nI (x.1 + 1))) 32 r 1 y) r u (x.1 + 1, x.2.1 ||| bit p, x.2.2) := by
        intro y hy
        obtain ⟨a3, a4, a5⟩ := x2
        refine ⟨by simp (disch := omega) only [hI_s, hI_k, hI_f, hI_sL, hL_sI, hL_s, hL_k, hL_f], by simp (disch := omega) only [hI_s, hI_k, hI_f, hI_sL, hL_sI, hL_s, hL_k, hL_f]; exact hy, ⟨by simp (disch := omega) only [hI_s, hI_k, hI_f, hI_sL, hL_sI, hL_s, hL_k, hL_f]; exact a3, a4, ?_⟩, by simp (disch := omega) only [hI_s, hI_k, hI_f, hI_sL, hL_sI, hL_s, hL_k, hL_f]; exact x8, by simp (disch := omega) only [hI_s, hI_k, hI_f, hI_sL, hL_sI, hL_s, hL_k, hL_f]; exact x37, Nat.le_succ_of_le xhl, by show x.1 + 1 ≤ 100; omega, x200⟩
        exact All_mo a5 fun j y _ k => ⟨by simp (disch := omega) only [hI_s, hI_k, hI_f, hI_sL, hL_sI, hL_s, hL_k, hL_f]; exact k.1, by simp (disch := omega) only [hI_s, hI_k, hI_f, hI_sL, hL_sI, hL_s, hL_k, hL_f]; exact k.2.1, k.2.2.1, by simp (disch := omega) only [hI_s, hI_k, hI_f, hI_sL, hL_sI, hL_s, hL_k, hL_f]; exact k.2.2.2.1, k.2.2.2.2⟩
      have u1c : ∀ y : Int32, UwC (setI (setI h 32 r 0 (nI (x.1 + 1))) 32 r 1 y) r ((p, dl.length, add) :: rest) := fun y => UwC_cong (by simp (disch := omega) only [hI_s, hI_k, hI_f, hI_sL, hL_sI, hL_s, hL_k, hL_f]) hu
      have f1c : ∀ y : Int32, Fr (EF r) σ (setI (setI h 32 r 0 (nI (x.1 + 1))) 32 r 1 y) := fun y => (hf.sI (f := 32) ⟨by omega, rfl⟩ _ _).sI (f := 32) ⟨by omega, rfl⟩ _ _
      have e1c : hI (setI h 32 r 0 (nI (x.1 + 1))) 32 r 1 = x.2.1 := by
        simp (disch := omega) only [hI_s, hI_k, hI_f, hI_sL, hL_sI, hL_s, hL_k, hL_f]
        exact x1
      rcases l with ⟨v, w⟩ | ⟨q, s⟩ | es
      · obtain ⟨kd1, kd2⟩ := kd
        obtain ⟨g1, g2, g3⟩ := gl
        have hih : isHd (.inl (v, w)) = 1 := rfl
        have kq : ∀ (s : Option Nat), s = secX rest x.2.2.1 → ∀ h1 h2, XC h1 r u (x.1 + 1, x.2.1 ||| bit p, x.2.2) → UwC h1 r ((p, dl.length, add) :: rest) → Fr (EF r) σ h1 → HAdd h1 h2 r x.2.2.1 (v + add, p, (w, cntN w x.2.2.1), s) → Sat true (d + k + 3 + 1) 9 σ.1 Q 31 [some (vr 32 r), some (vr 18 0), some (vi (nI p)), some (vi (nI add)), some (vi (nI rest.length)), some (vr 21 p), some (vi (nI (nHd dl + 1))), some (vi (nI (dl.length + 1))), none] [] h2 := by
          intro s hs h1 h2 q1 q2 q3 q4
          obtain ⟨b0, b1, b2, b8, b37, bhl, b100, b200⟩ := q1
          obtain ⟨p1, p2, p3, p4⟩ := q4
          have kk := ih2 (dl ++ [.inl (v, w)]) (x.1 + 1, x.2.1 ||| bit p, x.2.2.1 ++ [(v + add, p, (w, cntN w x.2.2.1), s)], x.2.2.2) h2 hls2 ⟨?_, ?_, p1, ?_, ?_, ?_, b100, b200⟩ (UwC_cong (p3 9 (by decide)) q2) (q3.tr p4) (fun e => ?_) (fun e => ?_) (Or.inl ?_)
          · rw [len2, nh2] at kk
            exact kk
          · rw [p3 0 (by decide)]; exact b0
          · rw [p3 1 (by decide)]; exact b1
          · rw [p3 8 (by decide)]; exact b8
          · rw [p2, b37, hoF_sn, Nat.zero_add]
          · show (x.2.2.1 ++ [(v + add, p, (w, cntN w x.2.2.1), s)]).length ≤ x.1 + 1
            rw [List.length_append]
            show x.2.2.1.length + 1 ≤ x.1 + 1
            omega
          · rw [nh2, nOwn_app, hn1 e, hs, e]
            rfl
          · rw [nOwn_app, hno e, hs]
            cases rest with
            | nil => exact absurd rfl e
            | cons a b => rfl
          · rw [len2, hs]
            exact st1
        have ha : ∀ (s : Option Nat), (∀ j, s = some j → j < 53) → PV (d + k + 3) 11 [vr 32 r, vl (lN (nmC w)), vi (nI (v + add)), vi (nI p), vi (secI s)] (setI (setI h 32 r 0 (nI (x.1 + 1))) 32 r 1 (x.2.1 ||| bit p)) (fun h' => HAdd (setI (setI h 32 r 0 (nI (x.1 + 1))) 32 r 1 (x.2.1 ||| bit p)) h' r x.2.2.1 (v + add, p, (w, cntN w x.2.2.1), s)) := fun s hs => e_addHeadingX (d + k + 1) hr (x1c _ rfl).2.2.1 (by omega) g3 hs
        refine wp_ok (cut := [31, 66]) ma_9 rfl 41 _ _ _ _ ?_
        show (p < 12 ∧ (p < 12 ∧ (vp_in (nI dl.length) 80 ∧ ((¬ (hI h 22 p ((nI dl.length).toNatClampNeg)) = (-1) → (r < 12 ∧ (r < 12 ∧ (r < 12 ∧ (r < 12 ∧ (((hI h 22 p ((nI dl.length).toNatClampNeg)) = 0 → Sat true (d + k + 3 + 1) 9 σ.1 Q 31 [some (vr 32 r), some (vr 18 0), some (vi (nI p)), some (vi (nI add)), some (vi (nI rest.length)), some (vr 21 p), some (vi (nI (nHd dl))), some (vi ((nI dl.length) + nI 1)), some (vi (hI h 22 p ((nI dl.length).toNatClampNeg)))] [] (setI (setI h 32 r 0 ((hI h 32 r 0) + (nI 1))) 32 r 1 ((hI (setI h 32 r 0 ((hI h 32 r 0) + (nI 1))) 32 r 1) ||| ((nI 1) <<< ((nI p) &&& 31))))) ∧ (¬ (hI h 22 p ((nI dl.length).toNatClampNeg)) = 0 → (p < 12 ∧ (p < 12 ∧ (vp_in (nI dl.length) 80 ∧ ((¬ (nI rest.length) = 0 → (r < 12 ∧ CalV true (d + k + 3) 11 [vr 32 r, vl (hL h 23 p ((nI dl.length).toNatClampNeg)), vi ((hI h 22 p ((nI dl.length).toNatClampNeg)) + (nI add)), vi (nI p), vi (-6)] (setI (setI h 32 r 0 ((hI h 32 r 0) + (nI 1))) 32 r 1 ((hI (setI h 32 r 0 ((hI h 32 r 0) + (nI 1))) 32 r 1) ||| ((nI 1) <<< ((nI p) &&& 31)))) σ.1 (fun s1 => Sat true (d + k + 3 + 1) 9 σ.1 Q 31 [some (vr 32 r), some (vr 18 0), some (vi (nI p)), some (vi (nI add)), some (vi (nI rest.length)), some (vr 21 p), some (vi ((nI (nHd dl)) + nI 1)), some (vi ((nI dl.length) + nI 1)), some (vi (hI h 22 p ((nI dl.length).toNatClampNeg)))] [] s1))) ∧ ((nI rest.length) = 0 → (r < 12 ∧ CalV true (d + k + 3) 11 [vr 32 r, vl (hL h 23 p ((nI dl.length).toNatClampNeg)), vi ((hI h 22 p ((nI dl.length).toNatClampNeg)) + (nI add)), vi (nI p), vi (nI (nHd dl))] (setI (setI h 32 r 0 ((hI h 32 r 0) + (nI 1))) 32 r 1 ((hI (setI h 32 r 0 ((hI h 32 r 0) + (nI 1))) 32 r 1) ||| ((nI 1) <<< ((nI p) &&& 31)))) σ.1 (fun s2 => Sat true (d + k + 3 + 1) 9 σ.1 Q 31 [some (vr 32 r), some (vr 18 0), some (vi (nI p)), some (vi (nI add)), some (vi (nI rest.length)), some (vr 21 p), some (vi ((nI (nHd dl)) + nI 1)), some (vi ((nI dl.length) + nI 1)), some (vi (hI h 22 p ((nI dl.length).toNatClampNeg)))] [] s2)))))))))))))) ∧ ((hI h 22 p ((nI dl.length).toNatClampNeg)) = (-1) → Sat true (d + k + 3 + 1) 9 σ.1 Q 66 [some (vr 32 r), some (vr 18 0), some (vi (nI p)), some (vi (nI add)), some (vi (nI rest.length)), some (vr 21 p), some (vi (nI (nHd dl))), some (vi (nI dl.length)), some (vi (hI h 22 p ((nI dl.length).toNatClampNeg)))] [] h)))))
        simp only [hp, hr, true_and]
        rw [ix (by omega), kd1, x0, addN, addN, e1c, addN]
        refine ⟨i1, fun _ => br_eq (b := 0) (by omega) (by omega) (fun g => by omega) (fun _ => ⟨i1, ?_⟩), fun g => absurd g (nI_m1 (by omega))⟩
        rw [kd2]
        cases hre : rest with
        | nil =>
          refine ⟨fun g => absurd rfl g, fun _ => ?_⟩
          refine cp_v (ha (some (nHd dl)) (fun j hj => by cases hj; omega)) hf.1 (fun h2 q4 _ => ?_)
          have := kq (some (nHd dl)) (by rw [hre]; show _ = some (nOwn x.2.2.1); rw [hn1 hre]) _ h2 (x1c _ rfl) (u1c _) (f1c _) q4
          rw [hre] at this
          rw [addN]
          exact Sat_no 8 this
        | cons a b =>
          have hlr : rest.length = b.length + 1 := by rw [hre]; rfl
          refine ⟨fun _ => ?_, fun g => absurd g (fun w => ?_)⟩
          · refine cp_v (ha none (fun j hj => by cases hj)) hf.1 (fun h2 q4 _ => ?_)
            have := kq none (by rw [hre]; rfl) _ h2 (x1c _ rfl) (u1c _) (f1c _) q4
            rw [hre] at this
            rw [addN]
            exact Sat_no 8 this
          · have := (eqN (a := (a :: b).length) (b := 0) (by rw [List.length_cons]; omega) (by omega)).mp w
            cases this
      · obtain ⟨kd1, kd2, kd3⟩ := kd
        obtain ⟨g1, g2⟩ := gl
        have hq12 : q < 12 := g1
        have hs2 : s.getD 0 ≤ 2 := by
          cases hs : s with
          | none => exact Nat.zero_le 2
          | some y => exact g2 y hs
        have er : EI (d + k + 3) 10 [vr 32 r, vr 18 0, vi (nI q)] h (bI (decide (P q ≠ [] ∧ onSt q ((p, dl.length, add) :: rest) = false ∧ x.2.2.2 < 200))) h := e_isReplaced (d + k + 2) hr hq12 hx' (OI_fr hf (ho q hq12)) (by have := txPg_len (hP q hq12).1; have := (hP q hq12).2; omega) hu
        have hih : isHd (.inr (.inl (q, s))) = 0 := rfl
        refine wp_ok (cut := [31, 122]) ma_9 rfl 41 _ _ _ _ ?_
        show (p < 12 ∧ (p < 12 ∧ (vp_in (nI dl.length) 80 ∧ ((¬ (hI h 22 p ((nI dl.length).toNatClampNeg)) = (-1) → Sat true (d + k + 3 + 1) 9 σ.1 Q 122 [some (vr 32 r), some (vr 18 0), some (vi (nI p)), some (vi (nI add)), some (vi (nI rest.length)), some (vr 21 p), some (vi (nI (nHd dl))), some (vi (nI dl.length)), some (vi (hI h 22 p ((nI dl.length).toNatClampNeg)))] [] h) ∧ ((hI h 22 p ((nI dl.length).toNatClampNeg)) = (-1) → (p < 12 ∧ (p < 12 ∧ (vp_in (nI dl.length) 80 ∧ (r < 12 ∧ CalI true (d + k + 3) 10 [vr 32 r, vr 18 0, vi (hI h 24 p ((nI dl.length).toNatClampNeg))] h σ.1 (fun x2 s1 => ((x2 = 0 → Sat true (d + k + 3 + 1) 9 σ.1 Q 31 [some (vr 32 r), some (vr 18 0), some (vi (nI p)), some (vi (nI add)), some (vi (nI rest.length)), some (vr 21 p), some (vi (nI (nHd dl))), some (vi ((nI dl.length) + nI 1)), some (vi (hI h 22 p ((nI dl.length).toNatClampNeg)))] [] s1) ∧ (¬ x2 = 0 → (r < 12 ∧ (r < 12 ∧ (p < 12 ∧ (p < 12 ∧ (vp_in (nI dl.length) 80 ∧ (p < 12 ∧ (p < 12 ∧ (vp_in (nI dl.length) 80 ∧ (r < 12 ∧ CalV true (d + k + 3) 9 [vr 32 r, vr 18 0, vi (hI s1 24 p ((nI dl.length).toNatClampNeg)), vi ((nI add) + (hI s1 25 p ((nI dl.length).toNatClampNeg))), vi ((nI rest.length) + (nI 1))] (setI s1 32 r 8 ((hI s1 32 r 8) + (nI 1))) σ.1 (fun s3 => Sat true (d + k + 3 + 1) 9 σ.1 Q 31 [some (vr 32 r), some (vr 18 0), some (vi (nI p)), some (vi (nI add)), some (vi (nI rest.length)), some (vr 21 p), some (vi (nI (nHd dl))), some (vi ((nI dl.length) + nI 1)), some (vi (hI h 22 p ((nI dl.length).toNatClampNeg)))] [] s3))))))))))))))))))))))
        simp only [hp, hr, true_and]
        rw [ix (by omega), kd1, kd2]
        refine ⟨i1, fun g => absurd rfl g, fun _ => ⟨i1, cal_i er hf.1 ?_⟩⟩
        rw [kd2, kd3, x8, addN, addN, addN, addN]
        by_cases hc : P q ≠ [] ∧ onSt q ((p, dl.length, add) :: rest) = false ∧ x.2.2.2 < 200
        · rw [decide_eq_true hc]
          refine b_t ?_
          have hln : xLine P p dl.length add rest (.inr (.inl (q, s))) x = ((q, 0, add + s.getD 0) :: (p, dl.length + 1, add) :: rest, x.1, x.2.1, x.2.2.1, x.2.2.2 + 1) := if_pos hc
          rw [hln] at st1
          have hok2 : okSt ((p, dl.length + 1, add) :: rest) := ⟨fun e he => by
            cases he with
            | head => exact hp
            | tail _ g => exact hok.1 e (List.mem_cons_of_mem _ g), hok.2⟩
          have pre : APre σ P r u q (add + s.getD 0) ((p, dl.length + 1, add) :: rest) (x.1, x.2.1, x.2.2.1, x.2.2.2 + 1) (setI h 32 r 8 (nI (x.2.2.2 + 1))) := by
            refine ⟨okSt_push hok2 hq12 hc.2.1, by rw [List.length_cons]; omega, ⟨by simp (disch := omega) only [hI_s, hI_k, hI_f, hI_sL, hL_sI, hL_s, hL_k, hL_f]; exact x0, by simp (disch := omega) only [hI_s, hI_k, hI_f, hI_sL, hL_sI, hL_s, hL_k, hL_f]; exact x1, ⟨by simp (disch := omega) only [hI_s, hI_k, hI_f, hI_sL, hL_sI, hL_s, hL_k, hL_f]; exact x2.1, x2.2.1, ?_⟩, by simp (disch := omega) only [hI_s, hI_k, hI_f, hI_sL, hL_sI, hL_s, hL_k, hL_f], by simp (disch := omega) only [hI_s, hI_k, hI_f, hI_sL, hL_sI, hL_s, hL_k, hL_f]; exact x37, xhl, x100, by show x.2.2.2 + 1 ≤ 200; omega⟩, UwC_cong (h := h) (by simp (disch := omega) only [hI_s, hI_k, hI_f, hI_sL, hL_sI, hL_s, hL_k, hL_f]) hu, hf.sI (f := 32) ⟨by omega, rfl⟩ _ _, hlt, fun e => by cases e⟩
            exact All_mo x2.2.2 fun j y _ k => ⟨by simp (disch := omega) only [hI_s, hI_k, hI_f, hI_sL, hL_sI, hL_s, hL_k, hL_f]; exact k.1, by simp (disch := omega) only [hI_s, hI_k, hI_f, hI_sL, hL_sI, hL_s, hL_k, hL_f]; exact k.2.1, k.2.2.1, by simp (disch := omega) only [hI_s, hI_k, hI_f, hI_sL, hL_sI, hL_s, hL_k, hL_f]; exact k.2.2.2.1, k.2.2.2.2⟩
          have con := ih q (add + s.getD 0) ((p, dl.length + 1, add) :: rest) (x.1, x.2.1, x.2.2.1, x.2.2.2 + 1) _ (by rw [List.length_cons]; omega) pre
          refine ⟨i1, i1, cp_v con hf.1 (fun h2 q4 _ => ?_)⟩
          obtain ⟨x', y1, y2, y3, y4, y5⟩ := q4
          have y4 := y4 (fun e => by cases e)
          have kq := ih2 (dl ++ [.inr (.inl (q, s))]) x' h2 hls2 y1 (fun z hz => y2 z hz) y3 (fun e => by rw [nh2, y4]; exact hn1 e) (fun e => by rw [y4]; exact hno e) (by
            rw [len2]
            rcases y5 with ⟨_, w⟩ | ⟨w1, st, w2, w3⟩
            · exact Or.inl (st1.tr w)
            · exact Or.inr ⟨w1, st, st1.tr w2, w3⟩)
          rw [len2, nh2] at kq
          exact Sat_no 8 kq
        · rw [decide_eq_false hc]
          refine b_f ?_
          have hln : xLine P p dl.length add rest (.inr (.inl (q, s))) x = ((p, dl.length + 1, add) :: rest, x) := if_neg hc
          rw [hln] at st1
          have kq := ih2 (dl ++ [.inr (.inl (q, s))]) x h hls2 hx' (fun z hz => hu z hz) hf (fun e => by rw [nh2]; exact hn1 e) hno (Or.inl (by rw [len2]; exact st1))
          rw [len2, nh2] at kq
          exact Sat_no 8 kq
      · have kd : hI h 22 p dl.length = nI 0 := kd
        have kq := ih2 (dl ++ [.inr (.inr es)]) (x.1 + 1, x.2.1 ||| bit p, x.2.2) _ hls2 (x1c _ rfl) (fun q hq => u1c _ q hq) (f1c _) (fun e => by rw [nh2]; exact hn1 e) hno (Or.inl (by rw [len2]; exact st1))
        rw [len2, nh2] at kq
        refine wp_ok (cut := [31, 66, 149]) ma_9 rfl 26 _ _ _ _ ?_
        show (p < 12 ∧ (p < 12 ∧ (vp_in (nI dl.length) 80 ∧ ((¬ (hI h 22 p ((nI dl.length).toNatClampNeg)) = (-1) → (r < 12 ∧ (r < 12 ∧ (r < 12 ∧ (r < 12 ∧ (((hI h 22 p ((nI dl.length).toNatClampNeg)) = 0 → Sat true (d + k + 3 + 1) 9 σ.1 Q 31 [some (vr 32 r), some (vr 18 0), some (vi (nI p)), some (vi (nI add)), some (vi (nI rest.length)), some (vr 21 p), some (vi (nI (nHd dl))), some (vi ((nI dl.length) + nI 1)), some (vi (hI h 22 p ((nI dl.length).toNatClampNeg)))] [] (setI (setI h 32 r 0 ((hI h 32 r 0) + (nI 1))) 32 r 1 ((hI (setI h 32 r 0 ((hI h 32 r 0) + (nI 1))) 32 r 1) ||| ((nI 1) <<< ((nI p) &&& 31))))) ∧ (¬ (hI h 22 p ((nI dl.length).toNatClampNeg)) = 0 → Sat true (d + k + 3 + 1) 9 σ.1 Q 149 [some (vr 32 r), some (vr 18 0), some (vi (nI p)), some (vi (nI add)), some (vi (nI rest.length)), some (vr 21 p), some (vi (nI (nHd dl))), some (vi (nI dl.length)), some (vi (hI h 22 p ((nI dl.length).toNatClampNeg)))] [] (setI (setI h 32 r 0 ((hI h 32 r 0) + (nI 1))) 32 r 1 ((hI (setI h 32 r 0 ((hI h 32 r 0) + (nI 1))) 32 r 1) ||| ((nI 1) <<< ((nI p) &&& 31))))))))))) ∧ ((hI h 22 p ((nI dl.length).toNatClampNeg)) = (-1) → Sat true (d + k + 3 + 1) 9 σ.1 Q 66 [some (vr 32 r), some (vr 18 0), some (vi (nI p)), some (vi (nI add)), some (vi (nI rest.length)), some (vr 21 p), some (vi (nI (nHd dl))), some (vi (nI dl.length)), some (vi (hI h 22 p ((nI dl.length).toNatClampNeg)))] [] h)))))
        simp only [hp, hr, true_and]
        rw [ix (by omega), kd, x0, addN, addN, e1c]
        exact ⟨i1, fun _ => ⟨fun _ => Sat_no 8 kq, fun g => absurd rfl g⟩, fun g => absurd g (by decide)⟩
end
