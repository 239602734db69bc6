/-! the model's constructor (written by gen_init.py) -/
set_option maxRecDepth 6000 in
theorem i_Model (d : Nat) {σ : Hp} (hc : 233 < σ.1.1) (hfa : ∀ t, t < 32 → fa (σ.1.1 + t) = (234 + t, 0)) : MV (d + 1) 107 [vr 233 0] σ (σ.1.1 + 32, σ.1.2.1 + 76821, σ.1.2.2) (fun h => MkI 32 σ h 233 0 [(0, 234), (2, 235), (3, 236), (7, 237), (8, 238), (9, 239), (10, 240), (11, 241), (12, 242), (13, 243), (14, 244), (15, 245), (16, 246), (17, 247), (18, 248), (19, 249), (20, 250), (21, 251), (22, 252), (23, 253), (24, 254), (25, 255), (26, 256), (27, 257), (28, 258), (29, 259), (32, 260), (34, 261), (38, 262), (42, 263), (43, 264), (45, 265)] 32 76821 ∧ ∀ q, q < 12 → hI h 235 0 (1920 + q) = (-6)) := by
  refine MV_of mt_107 (Nat.le_of_ble_eq_true rfl) ⟨Nat.le_add_right _ _, Nat.le_add_right _ _⟩ fun Q hq => ?_
  have s32 : ∀ h, MkI 32 σ h 233 0 [(0, 234), (2, 235), (3, 236), (7, 237), (8, 238), (9, 239), (10, 240), (11, 241), (12, 242), (13, 243), (14, 244), (15, 245), (16, 246), (17, 247), (18, 248), (19, 249), (20, 250), (21, 251), (22, 252), (23, 253), (24, 254), (25, 255), (26, 256), (27, 257), (28, 258), (29, 259), (32, 260), (34, 261), (38, 262), (42, 263), (43, 264), (45, 265)] 32 76821 → Sat false (d + 1) 107 (σ.1.1 + 32, σ.1.2.1 + 76821, σ.1.2.2) Q 276 [some (vr 233 0), none] [] h := by
    intro h k
    have loop : ∀ (n i : Nat) (h : Hp), i + n = 12 → MkI 32 σ h 233 0 [(0, 234), (2, 235), (3, 236), (7, 237), (8, 238), (9, 239), (10, 240), (11, 241), (12, 242), (13, 243), (14, 244), (15, 245), (16, 246), (17, 247), (18, 248), (19, 249), (20, 250), (21, 251), (22, 252), (23, 253), (24, 254), (25, 255), (26, 256), (27, 257), (28, 258), (29, 259), (32, 260), (34, 261), (38, 262), (42, 263), (43, 264), (45, 265)] 32 76821 → (∀ q, q < i → hI h 235 0 (1920 + q) = (-6)) → Sat false (d + 1) 107 (σ.1.1 + 32, σ.1.2.1 + 76821, σ.1.2.2) Q 278 [some (vr 233 0), some (vi (nI i))] [] h := by
      intro n
      induction n with
      | zero =>
        intro i h hi k z
        have c1 : h.1.1 = σ.1.1 + 32 := congrArg Prod.fst k.2.2.2
        refine wp_ok (cut := [278, 288]) ma_107 rfl 5 _ _ _ _ ?_
        show (((nI 12) ≤ (nI i) → (Q none h ∧ h.1 = (σ.1.1 + 32, σ.1.2.1 + 76821, σ.1.2.2))) ∧ (¬ (nI 12) ≤ (nI i) → (233 < h.1.1 ∧ Sat false (d + 1) 107 (σ.1.1 + 32, σ.1.2.1 + 76821, σ.1.2.2) Q 288 [some (vr 233 0), some (vi (nI i))] [Sum.inr (Sum.inr (hR h 233 0 2))] h)))
        exact br_le (by omega) (by omega) (fun _ => ⟨hq _ ⟨k, fun q hq => z q (by omega)⟩, k.2.2.2⟩) (fun g => by omega)
      | succ n ih =>
        intro i h hi k z
        have c1 : h.1.1 = σ.1.1 + 32 := congrArg Prod.fst k.2.2.2
        have c3 : hR h 233 0 2 = some (235, 0) := k.2.2.1 (2, 235) (by decide)
        refine wp_ok (cut := [278, 288]) ma_107 rfl 5 _ _ _ _ ?_
        show (((nI 12) ≤ (nI i) → (Q none h ∧ h.1 = (σ.1.1 + 32, σ.1.2.1 + 76821, σ.1.2.2))) ∧ (¬ (nI 12) ≤ (nI i) → (233 < h.1.1 ∧ Sat false (d + 1) 107 (σ.1.1 + 32, σ.1.2.1 + 76821, σ.1.2.2) Q 288 [some (vr 233 0), some (vi (nI i))] [Sum.inr (Sum.inr (hR h 233 0 2))] h)))
        rw [c3]
        refine br_le (by omega) (by omega) (fun g => by omega) (fun _ => ⟨by omega, ?_⟩)
        refine wp_ok (cut := [278, 288]) ma_107 rfl 7 _ _ _ _ ?_
        show (235 < h.1.1 ∧ (vp_in ((nI 1920) + (nI i)) 2830 ∧ Sat false (d + 1) 107 (σ.1.1 + 32, σ.1.2.1 + 76821, σ.1.2.2) Q 278 [some (vr 233 0), some (vi ((nI i) + nI 1))] [] (setI h 235 0 (((nI 1920) + (nI i)).toNatClampNeg) (-6))))
        rw [addN, addN, ix (by omega)]
        refine ⟨by omega, inb (by omega) (by omega), ih (i + 1) _ (by omega) (mk_A k (by omega) (by omega) (Or.inl (by unfold NZ; omega))) (fun q hq => ?_)⟩
        by_cases c : q = i
        · rw [c, hI_s]
        · rw [hI_k _ _ _ _ (by omega)]
          exact z q (by omega)
    have c1 : h.1.1 = σ.1.1 + 32 := congrArg Prod.fst k.2.2.2
    refine wp_ok (cut := [278]) ma_107 rfl 2 _ _ _ _ ?_
    show Sat false (d + 1) 107 (σ.1.1 + 32, σ.1.2.1 + 76821, σ.1.2.2) Q 278 [some (vr 233 0), some (vi (nI 0))] [] h
    exact loop 12 0 h (by omega) k (fun q hq => absurd hq (Nat.not_lt_zero _))
  have s31 : ∀ h, MkI 32 σ h 233 0 [(0, 234), (2, 235), (3, 236), (7, 237), (8, 238), (9, 239), (10, 240), (11, 241), (12, 242), (13, 243), (14, 244), (15, 245), (16, 246), (17, 247), (18, 248), (19, 249), (20, 250), (21, 251), (22, 252), (23, 253), (24, 254), (25, 255), (26, 256), (27, 257), (28, 258), (29, 259), (32, 260), (34, 261), (38, 262), (42, 263), (43, 264)] 31 76661 → Sat false (d + 1) 107 (σ.1.1 + 32, σ.1.2.1 + 76821, σ.1.2.2) Q 267 [some (vr 233 0), none] [] h := by
    intro h k
    have c1 : h.1.1 = σ.1.1 + 31 := congrArg Prod.fst k.2.2.2
    have c2 : h.1.2.1 = σ.1.2.1 + 76661 := congrArg (fun q => q.2.1) k.2.2.2
    have e : fa h.1.1 = (265, 0) := by rw [c1]; exact hfa 31 (by omega)
    refine wp_ok (cut := [273]) ma_107 rfl 3 _ _ _ _ ?_
    show (¬ (nI 160) < 0 ∧ fkd (fa h.1.1).1 = (20, 160) ∧ h.1.1 + 1 ≤ (σ.1.1 + 32, σ.1.2.1 + 76821, σ.1.2.2).1 ∧ h.1.2.1 + 160 ≤ (σ.1.1 + 32, σ.1.2.1 + 76821, σ.1.2.2).2.1 ∧ Sat false (d + 1) 107 (σ.1.1 + 32, σ.1.2.1 + 76821, σ.1.2.2) Q 273 [some (vr 233 0), none] [Sum.inr (Sum.inr (some (fa h.1.1))), vr 233 0] (zap h (fa h.1.1).1 (fa h.1.1).2 160))
    rw [e]
    refine ⟨nn0 160 (by omega), rfl, by show _ ≤ σ.1.1 + 32; omega, by show _ ≤ σ.1.2.1 + 76821; omega, ?_⟩
    refine wp_ok (cut := [276]) ma_107 rfl 1 _ _ _ _ ?_
    show (233 < (zap (h) 265 0 160).1.1 ∧ Sat false (d + 1) 107 (σ.1.1 + 32, σ.1.2.1 + 76821, σ.1.2.2) Q 276 [some (vr 233 0), none] [] (setR (zap (h) 265 0 160) 233 0 45 (some (265, 0))))
    exact ⟨by show _ < h.1.1 + 1; omega, s32 _ (mk_R (mk_z (k) (by omega) (by omega) 160) (by decide))⟩
  have s30 : ∀ h, MkI 32 σ h 233 0 [(0, 234), (2, 235), (3, 236), (7, 237), (8, 238), (9, 239), (10, 240), (11, 241), (12, 242), (13, 243), (14, 244), (15, 245), (16, 246), (17, 247), (18, 248), (19, 249), (20, 250), (21, 251), (22, 252), (23, 253), (24, 254), (25, 255), (26, 256), (27, 257), (28, 258), (29, 259), (32, 260), (34, 261), (38, 262), (42, 263)] 30 76645 → Sat false (d + 1) 107 (σ.1.1 + 32, σ.1.2.1 + 76821, σ.1.2.2) Q 259 [some (vr 233 0), none] [] h := by
    intro h k
    have c1 : h.1.1 = σ.1.1 + 30 := congrArg Prod.fst k.2.2.2
    have c2 : h.1.2.1 = σ.1.2.1 + 76645 := congrArg (fun q => q.2.1) k.2.2.2
    have e : fa h.1.1 = (264, 0) := by rw [c1]; exact hfa 30 (by omega)
    refine wp_ok (cut := [264]) ma_107 rfl 3 _ _ _ _ ?_
    show (¬ (nI 16) < 0 ∧ fkd (fa h.1.1).1 = (20, 16) ∧ h.1.1 + 1 ≤ (σ.1.1 + 32, σ.1.2.1 + 76821, σ.1.2.2).1 ∧ h.1.2.1 + 16 ≤ (σ.1.1 + 32, σ.1.2.1 + 76821, σ.1.2.2).2.1 ∧ Sat false (d + 1) 107 (σ.1.1 + 32, σ.1.2.1 + 76821, σ.1.2.2) Q 264 [some (vr 233 0), none] [Sum.inr (Sum.inr (some (fa h.1.1))), vr 233 0] (zap h (fa h.1.1).1 (fa h.1.1).2 16))
    rw [e]
    refine ⟨nn0 16 (by omega), rfl, by show _ ≤ σ.1.1 + 32; omega, by show _ ≤ σ.1.2.1 + 76821; omega, ?_⟩
    refine wp_ok (cut := [267]) ma_107 rfl 1 _ _ _ _ ?_
    show (233 < (zap (h) 264 0 16).1.1 ∧ Sat false (d + 1) 107 (σ.1.1 + 32, σ.1.2.1 + 76821, σ.1.2.2) Q 267 [some (vr 233 0), none] [] (setR (zap (h) 264 0 16) 233 0 43 (some (264, 0))))
    exact ⟨by show _ < h.1.1 + 1; omega, s31 _ (mk_R (mk_z (k) (by omega) (by omega) 16) (by decide))⟩
  have s29 : ∀ h, MkI 32 σ h 233 0 [(0, 234), (2, 235), (3, 236), (7, 237), (8, 238), (9, 239), (10, 240), (11, 241), (12, 242), (13, 243), (14, 244), (15, 245), (16, 246), (17, 247), (18, 248), (19, 249), (20, 250), (21, 251), (22, 252), (23, 253), (24, 254), (25, 255), (26, 256), (27, 257), (28, 258), (29, 259), (32, 260), (34, 261), (38, 262)] 29 76633 → Sat false (d + 1) 107 (σ.1.1 + 32, σ.1.2.1 + 76821, σ.1.2.2) Q 251 [some (vr 233 0), none] [] h := by
    intro h k
    have c1 : h.1.1 = σ.1.1 + 29 := congrArg Prod.fst k.2.2.2
    have c2 : h.1.2.1 = σ.1.2.1 + 76633 := congrArg (fun q => q.2.1) k.2.2.2
    have e : fa h.1.1 = (263, 0) := by rw [c1]; exact hfa 29 (by omega)
    refine wp_ok (cut := [256]) ma_107 rfl 3 _ _ _ _ ?_
    show (¬ (nI 12) < 0 ∧ fkd (fa h.1.1).1 = (20, 12) ∧ h.1.1 + 1 ≤ (σ.1.1 + 32, σ.1.2.1 + 76821, σ.1.2.2).1 ∧ h.1.2.1 + 12 ≤ (σ.1.1 + 32, σ.1.2.1 + 76821, σ.1.2.2).2.1 ∧ Sat false (d + 1) 107 (σ.1.1 + 32, σ.1.2.1 + 76821, σ.1.2.2) Q 256 [some (vr 233 0), none] [Sum.inr (Sum.inr (some (fa h.1.1))), vr 233 0] (zap h (fa h.1.1).1 (fa h.1.1).2 12))
    rw [e]
    refine ⟨nn0 12 (by omega), rfl, by show _ ≤ σ.1.1 + 32; omega, by show _ ≤ σ.1.2.1 + 76821; omega, ?_⟩
    refine wp_ok (cut := [259]) ma_107 rfl 1 _ _ _ _ ?_
    show (233 < (zap (h) 263 0 12).1.1 ∧ Sat false (d + 1) 107 (σ.1.1 + 32, σ.1.2.1 + 76821, σ.1.2.2) Q 259 [some (vr 233 0), none] [] (setR (zap (h) 263 0 12) 233 0 42 (some (263, 0))))
    exact ⟨by show _ < h.1.1 + 1; omega, s30 _ (mk_R (mk_z (k) (by omega) (by omega) 12) (by decide))⟩
  have s28 : ∀ h, MkI 32 σ h 233 0 [(0, 234), (2, 235), (3, 236), (7, 237), (8, 238), (9, 239), (10, 240), (11, 241), (12, 242), (13, 243), (14, 244), (15, 245), (16, 246), (17, 247), (18, 248), (19, 249), (20, 250), (21, 251), (22, 252), (23, 253), (24, 254), (25, 255), (26, 256), (27, 257), (28, 258), (29, 259), (32, 260), (34, 261)] 28 76621 → Sat false (d + 1) 107 (σ.1.1 + 32, σ.1.2.1 + 76821, σ.1.2.2) Q 243 [some (vr 233 0), none] [] h := by
    intro h k
    have c1 : h.1.1 = σ.1.1 + 28 := congrArg Prod.fst k.2.2.2
    have c2 : h.1.2.1 = σ.1.2.1 + 76621 := congrArg (fun q => q.2.1) k.2.2.2
    have e : fa h.1.1 = (262, 0) := by rw [c1]; exact hfa 28 (by omega)
    refine wp_ok (cut := [248]) ma_107 rfl 3 _ _ _ _ ?_
    show (¬ (nI 12) < 0 ∧ fkd (fa h.1.1).1 = (20, 12) ∧ h.1.1 + 1 ≤ (σ.1.1 + 32, σ.1.2.1 + 76821, σ.1.2.2).1 ∧ h.1.2.1 + 12 ≤ (σ.1.1 + 32, σ.1.2.1 + 76821, σ.1.2.2).2.1 ∧ Sat false (d + 1) 107 (σ.1.1 + 32, σ.1.2.1 + 76821, σ.1.2.2) Q 248 [some (vr 233 0), none] [Sum.inr (Sum.inr (some (fa h.1.1))), vr 233 0] (zap h (fa h.1.1).1 (fa h.1.1).2 12))
    rw [e]
    refine ⟨nn0 12 (by omega), rfl, by show _ ≤ σ.1.1 + 32; omega, by show _ ≤ σ.1.2.1 + 76821; omega, ?_⟩
    refine wp_ok (cut := [251]) ma_107 rfl 1 _ _ _ _ ?_
    show (233 < (zap (h) 262 0 12).1.1 ∧ Sat false (d + 1) 107 (σ.1.1 + 32, σ.1.2.1 + 76821, σ.1.2.2) Q 251 [some (vr 233 0), none] [] (setR (zap (h) 262 0 12) 233 0 38 (some (262, 0))))
    exact ⟨by show _ < h.1.1 + 1; omega, s29 _ (mk_R (mk_z (k) (by omega) (by omega) 12) (by decide))⟩
  have s27 : ∀ h, MkI 32 σ h 233 0 [(0, 234), (2, 235), (3, 236), (7, 237), (8, 238), (9, 239), (10, 240), (11, 241), (12, 242), (13, 243), (14, 244), (15, 245), (16, 246), (17, 247), (18, 248), (19, 249), (20, 250), (21, 251), (22, 252), (23, 253), (24, 254), (25, 255), (26, 256), (27, 257), (28, 258), (29, 259), (32, 260)] 27 71021 → Sat false (d + 1) 107 (σ.1.1 + 32, σ.1.2.1 + 76821, σ.1.2.2) Q 234 [some (vr 233 0), none] [] h := by
    intro h k
    have c1 : h.1.1 = σ.1.1 + 27 := congrArg Prod.fst k.2.2.2
    have c2 : h.1.2.1 = σ.1.2.1 + 71021 := congrArg (fun q => q.2.1) k.2.2.2
    have e : fa h.1.1 = (261, 0) := by rw [c1]; exact hfa 27 (by omega)
    refine wp_ok (cut := [240]) ma_107 rfl 3 _ _ _ _ ?_
    show (¬ (nI 5600) < 0 ∧ fkd (fa h.1.1).1 = (20, 5600) ∧ h.1.1 + 1 ≤ (σ.1.1 + 32, σ.1.2.1 + 76821, σ.1.2.2).1 ∧ h.1.2.1 + 5600 ≤ (σ.1.1 + 32, σ.1.2.1 + 76821, σ.1.2.2).2.1 ∧ Sat false (d + 1) 107 (σ.1.1 + 32, σ.1.2.1 + 76821, σ.1.2.2) Q 240 [some (vr 233 0), none] [Sum.inr (Sum.inr (some (fa h.1.1))), vr 233 0] (zap h (fa h.1.1).1 (fa h.1.1).2 5600))
    rw [e]
    refine ⟨nn0 5600 (by omega), rfl, by show _ ≤ σ.1.1 + 32; omega, by show _ ≤ σ.1.2.1 + 76821; omega, ?_⟩
    refine wp_ok (cut := [243]) ma_107 rfl 1 _ _ _ _ ?_
    show (233 < (zap (h) 261 0 5600).1.1 ∧ Sat false (d + 1) 107 (σ.1.1 + 32, σ.1.2.1 + 76821, σ.1.2.2) Q 243 [some (vr 233 0), none] [] (setR (zap (h) 261 0 5600) 233 0 34 (some (261, 0))))
    exact ⟨by show _ < h.1.1 + 1; omega, s28 _ (mk_R (mk_z (k) (by omega) (by omega) 5600) (by decide))⟩
  have s26 : ∀ h, MkI 32 σ h 233 0 [(0, 234), (2, 235), (3, 236), (7, 237), (8, 238), (9, 239), (10, 240), (11, 241), (12, 242), (13, 243), (14, 244), (15, 245), (16, 246), (17, 247), (18, 248), (19, 249), (20, 250), (21, 251), (22, 252), (23, 253), (24, 254), (25, 255), (26, 256), (27, 257), (28, 258), (29, 259)] 26 70957 → Sat false (d + 1) 107 (σ.1.1 + 32, σ.1.2.1 + 76821, σ.1.2.2) Q 226 [some (vr 233 0), none] [] h := by
    intro h k
    have c1 : h.1.1 = σ.1.1 + 26 := congrArg Prod.fst k.2.2.2
    have c2 : h.1.2.1 = σ.1.2.1 + 70957 := congrArg (fun q => q.2.1) k.2.2.2
    have e : fa h.1.1 = (260, 0) := by rw [c1]; exact hfa 26 (by omega)
    refine wp_ok (cut := [231]) ma_107 rfl 3 _ _ _ _ ?_
    show (¬ (nI 64) < 0 ∧ fkd (fa h.1.1).1 = (20, 64) ∧ h.1.1 + 1 ≤ (σ.1.1 + 32, σ.1.2.1 + 76821, σ.1.2.2).1 ∧ h.1.2.1 + 64 ≤ (σ.1.1 + 32, σ.1.2.1 + 76821, σ.1.2.2).2.1 ∧ Sat false (d + 1) 107 (σ.1.1 + 32, σ.1.2.1 + 76821, σ.1.2.2) Q 231 [some (vr 233 0), none] [Sum.inr (Sum.inr (some (fa h.1.1))), vr 233 0] (zap h (fa h.1.1).1 (fa h.1.1).2 64))
    rw [e]
    refine ⟨nn0 64 (by omega), rfl, by show _ ≤ σ.1.1 + 32; omega, by show _ ≤ σ.1.2.1 + 76821; omega, ?_⟩
    refine wp_ok (cut := [234]) ma_107 rfl 1 _ _ _ _ ?_
    show (233 < (zap (h) 260 0 64).1.1 ∧ Sat false (d + 1) 107 (σ.1.1 + 32, σ.1.2.1 + 76821, σ.1.2.2) Q 234 [some (vr 233 0), none] [] (setR (zap (h) 260 0 64) 233 0 32 (some (260, 0))))
    exact ⟨by show _ < h.1.1 + 1; omega, s27 _ (mk_R (mk_z (k) (by omega) (by omega) 64) (by decide))⟩
  have s25 : ∀ h, MkI 32 σ h 233 0 [(0, 234), (2, 235), (3, 236), (7, 237), (8, 238), (9, 239), (10, 240), (11, 241), (12, 242), (13, 243), (14, 244), (15, 245), (16, 246), (17, 247), (18, 248), (19, 249), (20, 250), (21, 251), (22, 252), (23, 253), (24, 254), (25, 255), (26, 256), (27, 257), (28, 258)] 25 70944 → Sat false (d + 1) 107 (σ.1.1 + 32, σ.1.2.1 + 76821, σ.1.2.2) Q 218 [some (vr 233 0), none] [] h := by
    intro h k
    have c1 : h.1.1 = σ.1.1 + 25 := congrArg Prod.fst k.2.2.2
    have c2 : h.1.2.1 = σ.1.2.1 + 70944 := congrArg (fun q => q.2.1) k.2.2.2
    have e : fa h.1.1 = (259, 0) := by rw [c1]; exact hfa 25 (by omega)
    refine wp_ok (cut := [223]) ma_107 rfl 3 _ _ _ _ ?_
    show (¬ (nI 13) < 0 ∧ fkd (fa h.1.1).1 = (20, 13) ∧ h.1.1 + 1 ≤ (σ.1.1 + 32, σ.1.2.1 + 76821, σ.1.2.2).1 ∧ h.1.2.1 + 13 ≤ (σ.1.1 + 32, σ.1.2.1 + 76821, σ.1.2.2).2.1 ∧ Sat false (d + 1) 107 (σ.1.1 + 32, σ.1.2.1 + 76821, σ.1.2.2) Q 223 [some (vr 233 0), none] [Sum.inr (Sum.inr (some (fa h.1.1))), vr 233 0] (zap h (fa h.1.1).1 (fa h.1.1).2 13))
    rw [e]
    refine ⟨nn0 13 (by omega), rfl, by show _ ≤ σ.1.1 + 32; omega, by show _ ≤ σ.1.2.1 + 76821; omega, ?_⟩
    refine wp_ok (cut := [226]) ma_107 rfl 1 _ _ _ _ ?_
    show (233 < (zap (h) 259 0 13).1.1 ∧ Sat false (d + 1) 107 (σ.1.1 + 32, σ.1.2.1 + 76821, σ.1.2.2) Q 226 [some (vr 233 0), none] [] (setR (zap (h) 259 0 13) 233 0 29 (some (259, 0))))
    exact ⟨by show _ < h.1.1 + 1; omega, s26 _ (mk_R (mk_z (k) (by omega) (by omega) 13) (by decide))⟩
  have s24 : ∀ h, MkI 32 σ h 233 0 [(0, 234), (2, 235), (3, 236), (7, 237), (8, 238), (9, 239), (10, 240), (11, 241), (12, 242), (13, 243), (14, 244), (15, 245), (16, 246), (17, 247), (18, 248), (19, 249), (20, 250), (21, 251), (22, 252), (23, 253), (24, 254), (25, 255), (26, 256), (27, 257)] 24 70931 → Sat false (d + 1) 107 (σ.1.1 + 32, σ.1.2.1 + 76821, σ.1.2.2) Q 210 [some (vr 233 0), none] [] h := by
    intro h k
    have c1 : h.1.1 = σ.1.1 + 24 := congrArg Prod.fst k.2.2.2
    have c2 : h.1.2.1 = σ.1.2.1 + 70931 := congrArg (fun q => q.2.1) k.2.2.2
    have e : fa h.1.1 = (258, 0) := by rw [c1]; exact hfa 24 (by omega)
    refine wp_ok (cut := [215]) ma_107 rfl 3 _ _ _ _ ?_
    show (¬ (nI 13) < 0 ∧ fkd (fa h.1.1).1 = (20, 13) ∧ h.1.1 + 1 ≤ (σ.1.1 + 32, σ.1.2.1 + 76821, σ.1.2.2).1 ∧ h.1.2.1 + 13 ≤ (σ.1.1 + 32, σ.1.2.1 + 76821, σ.1.2.2).2.1 ∧ Sat false (d + 1) 107 (σ.1.1 + 32, σ.1.2.1 + 76821, σ.1.2.2) Q 215 [some (vr 233 0), none] [Sum.inr (Sum.inr (some (fa h.1.1))), vr 233 0] (zap h (fa h.1.1).1 (fa h.1.1).2 13))
    rw [e]
    refine ⟨nn0 13 (by omega), rfl, by show _ ≤ σ.1.1 + 32; omega, by show _ ≤ σ.1.2.1 + 76821; omega, ?_⟩
    refine wp_ok (cut := [218]) ma_107 rfl 1 _ _ _ _ ?_
    show (233 < (zap (h) 258 0 13).1.1 ∧ Sat false (d + 1) 107 (σ.1.1 + 32, σ.1.2.1 + 76821, σ.1.2.2) Q 218 [some (vr 233 0), none] [] (setR (zap (h) 258 0 13) 233 0 28 (some (258, 0))))
    exact ⟨by show _ < h.1.1 + 1; omega, s25 _ (mk_R (mk_z (k) (by omega) (by omega) 13) (by decide))⟩
  have s23 : ∀ h, MkI 32 σ h 233 0 [(0, 234), (2, 235), (3, 236), (7, 237), (8, 238), (9, 239), (10, 240), (11, 241), (12, 242), (13, 243), (14, 244), (15, 245), (16, 246), (17, 247), (18, 248), (19, 249), (20, 250), (21, 251), (22, 252), (23, 253), (24, 254), (25, 255), (26, 256)] 23 70918 → Sat false (d + 1) 107 (σ.1.1 + 32, σ.1.2.1 + 76821, σ.1.2.2) Q 202 [some (vr 233 0), none] [] h := by
    intro h k
    have c1 : h.1.1 = σ.1.1 + 23 := congrArg Prod.fst k.2.2.2
    have c2 : h.1.2.1 = σ.1.2.1 + 70918 := congrArg (fun q => q.2.1) k.2.2.2
    have e : fa h.1.1 = (257, 0) := by rw [c1]; exact hfa 23 (by omega)
    refine wp_ok (cut := [207]) ma_107 rfl 3 _ _ _ _ ?_
    show (¬ (nI 13) < 0 ∧ fkd (fa h.1.1).1 = (20, 13) ∧ h.1.1 + 1 ≤ (σ.1.1 + 32, σ.1.2.1 + 76821, σ.1.2.2).1 ∧ h.1.2.1 + 13 ≤ (σ.1.1 + 32, σ.1.2.1 + 76821, σ.1.2.2).2.1 ∧ Sat false (d + 1) 107 (σ.1.1 + 32, σ.1.2.1 + 76821, σ.1.2.2) Q 207 [some (vr 233 0), none] [Sum.inr (Sum.inr (some (fa h.1.1))), vr 233 0] (zap h (fa h.1.1).1 (fa h.1.1).2 13))
    rw [e]
    refine ⟨nn0 13 (by omega), rfl, by show _ ≤ σ.1.1 + 32; omega, by show _ ≤ σ.1.2.1 + 76821; omega, ?_⟩
    refine wp_ok (cut := [210]) ma_107 rfl 1 _ _ _ _ ?_
    show (233 < (zap (h) 257 0 13).1.1 ∧ Sat false (d + 1) 107 (σ.1.1 + 32, σ.1.2.1 + 76821, σ.1.2.2) Q 210 [some (vr 233 0), none] [] (setR (zap (h) 257 0 13) 233 0 27 (some (257, 0))))
    exact ⟨by show _ < h.1.1 + 1; omega, s24 _ (mk_R (mk_z (k) (by omega) (by omega) 13) (by decide))⟩
  have s22 : ∀ h, MkI 32 σ h 233 0 [(0, 234), (2, 235), (3, 236), (7, 237), (8, 238), (9, 239), (10, 240), (11, 241), (12, 242), (13, 243), (14, 244), (15, 245), (16, 246), (17, 247), (18, 248), (19, 249), (20, 250), (21, 251), (22, 252), (23, 253), (24, 254), (25, 255)] 22 70414 → Sat false (d + 1) 107 (σ.1.1 + 32, σ.1.2.1 + 76821, σ.1.2.2) Q 193 [some (vr 233 0), none] [] h := by
    intro h k
    have c1 : h.1.1 = σ.1.1 + 22 := congrArg Prod.fst k.2.2.2
    have c2 : h.1.2.1 = σ.1.2.1 + 70414 := congrArg (fun q => q.2.1) k.2.2.2
    have e : fa h.1.1 = (256, 0) := by rw [c1]; exact hfa 22 (by omega)
    refine wp_ok (cut := [199]) ma_107 rfl 3 _ _ _ _ ?_
    show (¬ (nI 504) < 0 ∧ fkd (fa h.1.1).1 = (20, 504) ∧ h.1.1 + 1 ≤ (σ.1.1 + 32, σ.1.2.1 + 76821, σ.1.2.2).1 ∧ h.1.2.1 + 504 ≤ (σ.1.1 + 32, σ.1.2.1 + 76821, σ.1.2.2).2.1 ∧ Sat false (d + 1) 107 (σ.1.1 + 32, σ.1.2.1 + 76821, σ.1.2.2) Q 199 [some (vr 233 0), none] [Sum.inr (Sum.inr (some (fa h.1.1))), vr 233 0] (zap h (fa h.1.1).1 (fa h.1.1).2 504))
    rw [e]
    refine ⟨nn0 504 (by omega), rfl, by show _ ≤ σ.1.1 + 32; omega, by show _ ≤ σ.1.2.1 + 76821; omega, ?_⟩
    refine wp_ok (cut := [202]) ma_107 rfl 1 _ _ _ _ ?_
    show (233 < (zap (h) 256 0 504).1.1 ∧ Sat false (d + 1) 107 (σ.1.1 + 32, σ.1.2.1 + 76821, σ.1.2.2) Q 202 [some (vr 233 0), none] [] (setR (zap (h) 256 0 504) 233 0 26 (some (256, 0))))
    exact ⟨by show _ < h.1.1 + 1; omega, s23 _ (mk_R (mk_z (k) (by omega) (by omega) 504) (by decide))⟩
  have s21 : ∀ h, MkI 32 σ h 233 0 [(0, 234), (2, 235), (3, 236), (7, 237), (8, 238), (9, 239), (10, 240), (11, 241), (12, 242), (13, 243), (14, 244), (15, 245), (16, 246), (17, 247), (18, 248), (19, 249), (20, 250), (21, 251), (22, 252), (23, 253), (24, 254)] 21 69910 → Sat false (d + 1) 107 (σ.1.1 + 32, σ.1.2.1 + 76821, σ.1.2.2) Q 184 [some (vr 233 0), none] [] h := by
    intro h k
    have c1 : h.1.1 = σ.1.1 + 21 := congrArg Prod.fst k.2.2.2
    have c2 : h.1.2.1 = σ.1.2.1 + 69910 := congrArg (fun q => q.2.1) k.2.2.2
    have e : fa h.1.1 = (255, 0) := by rw [c1]; exact hfa 21 (by omega)
    refine wp_ok (cut := [190]) ma_107 rfl 3 _ _ _ _ ?_
    show (¬ (nI 504) < 0 ∧ fkd (fa h.1.1).1 = (20, 504) ∧ h.1.1 + 1 ≤ (σ.1.1 + 32, σ.1.2.1 + 76821, σ.1.2.2).1 ∧ h.1.2.1 + 504 ≤ (σ.1.1 + 32, σ.1.2.1 + 76821, σ.1.2.2).2.1 ∧ Sat false (d + 1) 107 (σ.1.1 + 32, σ.1.2.1 + 76821, σ.1.2.2) Q 190 [some (vr 233 0), none] [Sum.inr (Sum.inr (some (fa h.1.1))), vr 233 0] (zap h (fa h.1.1).1 (fa h.1.1).2 504))
    rw [e]
    refine ⟨nn0 504 (by omega), rfl, by show _ ≤ σ.1.1 + 32; omega, by show _ ≤ σ.1.2.1 + 76821; omega, ?_⟩
    refine wp_ok (cut := [193]) ma_107 rfl 1 _ _ _ _ ?_
    show (233 < (zap (h) 255 0 504).1.1 ∧ Sat false (d + 1) 107 (σ.1.1 + 32, σ.1.2.1 + 76821, σ.1.2.2) Q 193 [some (vr 233 0), none] [] (setR (zap (h) 255 0 504) 233 0 25 (some (255, 0))))
    exact ⟨by show _ < h.1.1 + 1; omega, s22 _ (mk_R (mk_z (k) (by omega) (by omega) 504) (by decide))⟩
  have s20 : ∀ h, MkI 32 σ h 233 0 [(0, 234), (2, 235), (3, 236), (7, 237), (8, 238), (9, 239), (10, 240), (11, 241), (12, 242), (13, 243), (14, 244), (15, 245), (16, 246), (17, 247), (18, 248), (19, 249), (20, 250), (21, 251), (22, 252), (23, 253)] 20 69406 → Sat false (d + 1) 107 (σ.1.1 + 32, σ.1.2.1 + 76821, σ.1.2.2) Q 175 [some (vr 233 0), none] [] h := by
    intro h k
    have c1 : h.1.1 = σ.1.1 + 20 := congrArg Prod.fst k.2.2.2
    have c2 : h.1.2.1 = σ.1.2.1 + 69406 := congrArg (fun q => q.2.1) k.2.2.2
    have e : fa h.1.1 = (254, 0) := by rw [c1]; exact hfa 20 (by omega)
    refine wp_ok (cut := [181]) ma_107 rfl 3 _ _ _ _ ?_
    show (¬ (nI 504) < 0 ∧ fkd (fa h.1.1).1 = (20, 504) ∧ h.1.1 + 1 ≤ (σ.1.1 + 32, σ.1.2.1 + 76821, σ.1.2.2).1 ∧ h.1.2.1 + 504 ≤ (σ.1.1 + 32, σ.1.2.1 + 76821, σ.1.2.2).2.1 ∧ Sat false (d + 1) 107 (σ.1.1 + 32, σ.1.2.1 + 76821, σ.1.2.2) Q 181 [some (vr 233 0), none] [Sum.inr (Sum.inr (some (fa h.1.1))), vr 233 0] (zap h (fa h.1.1).1 (fa h.1.1).2 504))
    rw [e]
    refine ⟨nn0 504 (by omega), rfl, by show _ ≤ σ.1.1 + 32; omega, by show _ ≤ σ.1.2.1 + 76821; omega, ?_⟩
    refine wp_ok (cut := [184]) ma_107 rfl 1 _ _ _ _ ?_
    show (233 < (zap (h) 254 0 504).1.1 ∧ Sat false (d + 1) 107 (σ.1.1 + 32, σ.1.2.1 + 76821, σ.1.2.2) Q 184 [some (vr 233 0), none] [] (setR (zap (h) 254 0 504) 233 0 24 (some (254, 0))))
    exact ⟨by show _ < h.1.1 + 1; omega, s21 _ (mk_R (mk_z (k) (by omega) (by omega) 504) (by decide))⟩
  have s19 : ∀ h, MkI 32 σ h 233 0 [(0, 234), (2, 235), (3, 236), (7, 237), (8, 238), (9, 239), (10, 240), (11, 241), (12, 242), (13, 243), (14, 244), (15, 245), (16, 246), (17, 247), (18, 248), (19, 249), (20, 250), (21, 251), (22, 252)] 19 69394 → Sat false (d + 1) 107 (σ.1.1 + 32, σ.1.2.1 + 76821, σ.1.2.2) Q 167 [some (vr 233 0), none] [] h := by
    intro h k
    have c1 : h.1.1 = σ.1.1 + 19 := congrArg Prod.fst k.2.2.2
    have c2 : h.1.2.1 = σ.1.2.1 + 69394 := congrArg (fun q => q.2.1) k.2.2.2
    have e : fa h.1.1 = (253, 0) := by rw [c1]; exact hfa 19 (by omega)
    refine wp_ok (cut := [172]) ma_107 rfl 3 _ _ _ _ ?_
    show (¬ (nI 12) < 0 ∧ fkd (fa h.1.1).1 = (20, 12) ∧ h.1.1 + 1 ≤ (σ.1.1 + 32, σ.1.2.1 + 76821, σ.1.2.2).1 ∧ h.1.2.1 + 12 ≤ (σ.1.1 + 32, σ.1.2.1 + 76821, σ.1.2.2).2.1 ∧ Sat false (d + 1) 107 (σ.1.1 + 32, σ.1.2.1 + 76821, σ.1.2.2) Q 172 [some (vr 233 0), none] [Sum.inr (Sum.inr (some (fa h.1.1))), vr 233 0] (zap h (fa h.1.1).1 (fa h.1.1).2 12))
    rw [e]
    refine ⟨nn0 12 (by omega), rfl, by show _ ≤ σ.1.1 + 32; omega, by show _ ≤ σ.1.2.1 + 76821; omega, ?_⟩
    refine wp_ok (cut := [175]) ma_107 rfl 1 _ _ _ _ ?_
    show (233 < (zap (h) 253 0 12).1.1 ∧ Sat false (d + 1) 107 (σ.1.1 + 32, σ.1.2.1 + 76821, σ.1.2.2) Q 175 [some (vr 233 0), none] [] (setR (zap (h) 253 0 12) 233 0 23 (some (253, 0))))
    exact ⟨by show _ < h.1.1 + 1; omega, s20 _ (mk_R (mk_z (k) (by omega) (by omega) 12) (by decide))⟩
  have s18 : ∀ h, MkI 32 σ h 233 0 [(0, 234), (2, 235), (3, 236), (7, 237), (8, 238), (9, 239), (10, 240), (11, 241), (12, 242), (13, 243), (14, 244), (15, 245), (16, 246), (17, 247), (18, 248), (19, 249), (20, 250), (21, 251)] 18 69382 → Sat false (d + 1) 107 (σ.1.1 + 32, σ.1.2.1 + 76821, σ.1.2.2) Q 159 [some (vr 233 0), none] [] h := by
    intro h k
    have c1 : h.1.1 = σ.1.1 + 18 := congrArg Prod.fst k.2.2.2
    have c2 : h.1.2.1 = σ.1.2.1 + 69382 := congrArg (fun q => q.2.1) k.2.2.2
    have e : fa h.1.1 = (252, 0) := by rw [c1]; exact hfa 18 (by omega)
    refine wp_ok (cut := [164]) ma_107 rfl 3 _ _ _ _ ?_
    show (¬ (nI 12) < 0 ∧ fkd (fa h.1.1).1 = (20, 12) ∧ h.1.1 + 1 ≤ (σ.1.1 + 32, σ.1.2.1 + 76821, σ.1.2.2).1 ∧ h.1.2.1 + 12 ≤ (σ.1.1 + 32, σ.1.2.1 + 76821, σ.1.2.2).2.1 ∧ Sat false (d + 1) 107 (σ.1.1 + 32, σ.1.2.1 + 76821, σ.1.2.2) Q 164 [some (vr 233 0), none] [Sum.inr (Sum.inr (some (fa h.1.1))), vr 233 0] (zap h (fa h.1.1).1 (fa h.1.1).2 12))
    rw [e]
    refine ⟨nn0 12 (by omega), rfl, by show _ ≤ σ.1.1 + 32; omega, by show _ ≤ σ.1.2.1 + 76821; omega, ?_⟩
    refine wp_ok (cut := [167]) ma_107 rfl 1 _ _ _ _ ?_
    show (233 < (zap (h) 252 0 12).1.1 ∧ Sat false (d + 1) 107 (σ.1.1 + 32, σ.1.2.1 + 76821, σ.1.2.2) Q 167 [some (vr 233 0), none] [] (setR (zap (h) 252 0 12) 233 0 22 (some (252, 0))))
    exact ⟨by show _ < h.1.1 + 1; omega, s19 _ (mk_R (mk_z (k) (by omega) (by omega) 12) (by decide))⟩
  have s17 : ∀ h, MkI 32 σ h 233 0 [(0, 234), (2, 235), (3, 236), (7, 237), (8, 238), (9, 239), (10, 240), (11, 241), (12, 242), (13, 243), (14, 244), (15, 245), (16, 246), (17, 247), (18, 248), (19, 249), (20, 250)] 17 69370 → Sat false (d + 1) 107 (σ.1.1 + 32, σ.1.2.1 + 76821, σ.1.2.2) Q 151 [some (vr 233 0), none] [] h := by
    intro h k
    have c1 : h.1.1 = σ.1.1 + 17 := congrArg Prod.fst k.2.2.2
    have c2 : h.1.2.1 = σ.1.2.1 + 69370 := congrArg (fun q => q.2.1) k.2.2.2
    have e : fa h.1.1 = (251, 0) := by rw [c1]; exact hfa 17 (by omega)
    refine wp_ok (cut := [156]) ma_107 rfl 3 _ _ _ _ ?_
    show (¬ (nI 12) < 0 ∧ fkd (fa h.1.1).1 = (20, 12) ∧ h.1.1 + 1 ≤ (σ.1.1 + 32, σ.1.2.1 + 76821, σ.1.2.2).1 ∧ h.1.2.1 + 12 ≤ (σ.1.1 + 32, σ.1.2.1 + 76821, σ.1.2.2).2.1 ∧ Sat false (d + 1) 107 (σ.1.1 + 32, σ.1.2.1 + 76821, σ.1.2.2) Q 156 [some (vr 233 0), none] [Sum.inr (Sum.inr (some (fa h.1.1))), vr 233 0] (zap h (fa h.1.1).1 (fa h.1.1).2 12))
    rw [e]
    refine ⟨nn0 12 (by omega), rfl, by show _ ≤ σ.1.1 + 32; omega, by show _ ≤ σ.1.2.1 + 76821; omega, ?_⟩
    refine wp_ok (cut := [159]) ma_107 rfl 1 _ _ _ _ ?_
    show (233 < (zap (h) 251 0 12).1.1 ∧ Sat false (d + 1) 107 (σ.1.1 + 32, σ.1.2.1 + 76821, σ.1.2.2) Q 159 [some (vr 233 0), none] [] (setR (zap (h) 251 0 12) 233 0 21 (some (251, 0))))
    exact ⟨by show _ < h.1.1 + 1; omega, s18 _ (mk_R (mk_z (k) (by omega) (by omega) 12) (by decide))⟩
  have s16 : ∀ h, MkI 32 σ h 233 0 [(0, 234), (2, 235), (3, 236), (7, 237), (8, 238), (9, 239), (10, 240), (11, 241), (12, 242), (13, 243), (14, 244), (15, 245), (16, 246), (17, 247), (18, 248), (19, 249)] 16 68722 → Sat false (d + 1) 107 (σ.1.1 + 32, σ.1.2.1 + 76821, σ.1.2.2) Q 142 [some (vr 233 0), none] [] h := by
    intro h k
    have c1 : h.1.1 = σ.1.1 + 16 := congrArg Prod.fst k.2.2.2
    have c2 : h.1.2.1 = σ.1.2.1 + 68722 := congrArg (fun q => q.2.1) k.2.2.2
    have e : fa h.1.1 = (250, 0) := by rw [c1]; exact hfa 16 (by omega)
    refine wp_ok (cut := [148]) ma_107 rfl 3 _ _ _ _ ?_
    show (¬ (nI 648) < 0 ∧ fkd (fa h.1.1).1 = (20, 648) ∧ h.1.1 + 1 ≤ (σ.1.1 + 32, σ.1.2.1 + 76821, σ.1.2.2).1 ∧ h.1.2.1 + 648 ≤ (σ.1.1 + 32, σ.1.2.1 + 76821, σ.1.2.2).2.1 ∧ Sat false (d + 1) 107 (σ.1.1 + 32, σ.1.2.1 + 76821, σ.1.2.2) Q 148 [some (vr 233 0), none] [Sum.inr (Sum.inr (some (fa h.1.1))), vr 233 0] (zap h (fa h.1.1).1 (fa h.1.1).2 648))
    rw [e]
    refine ⟨nn0 648 (by omega), rfl, by show _ ≤ σ.1.1 + 32; omega, by show _ ≤ σ.1.2.1 + 76821; omega, ?_⟩
    refine wp_ok (cut := [151]) ma_107 rfl 1 _ _ _ _ ?_
    show (233 < (zap (h) 250 0 648).1.1 ∧ Sat false (d + 1) 107 (σ.1.1 + 32, σ.1.2.1 + 76821, σ.1.2.2) Q 151 [some (vr 233 0), none] [] (setR (zap (h) 250 0 648) 233 0 20 (some (250, 0))))
    exact ⟨by show _ < h.1.1 + 1; omega, s17 _ (mk_R (mk_z (k) (by omega) (by omega) 648) (by decide))⟩
  have s15 : ∀ h, MkI 32 σ h 233 0 [(0, 234), (2, 235), (3, 236), (7, 237), (8, 238), (9, 239), (10, 240), (11, 241), (12, 242), (13, 243), (14, 244), (15, 245), (16, 246), (17, 247), (18, 248)] 15 68074 → Sat false (d + 1) 107 (σ.1.1 + 32, σ.1.2.1 + 76821, σ.1.2.2) Q 133 [some (vr 233 0), none] [] h := by
    intro h k
    have c1 : h.1.1 = σ.1.1 + 15 := congrArg Prod.fst k.2.2.2
    have c2 : h.1.2.1 = σ.1.2.1 + 68074 := congrArg (fun q => q.2.1) k.2.2.2
    have e : fa h.1.1 = (249, 0) := by rw [c1]; exact hfa 15 (by omega)
    refine wp_ok (cut := [139]) ma_107 rfl 3 _ _ _ _ ?_
    show (¬ (nI 648) < 0 ∧ fkd (fa h.1.1).1 = (20, 648) ∧ h.1.1 + 1 ≤ (σ.1.1 + 32, σ.1.2.1 + 76821, σ.1.2.2).1 ∧ h.1.2.1 + 648 ≤ (σ.1.1 + 32, σ.1.2.1 + 76821, σ.1.2.2).2.1 ∧ Sat false (d + 1) 107 (σ.1.1 + 32, σ.1.2.1 + 76821, σ.1.2.2) Q 139 [some (vr 233 0), none] [Sum.inr (Sum.inr (some (fa h.1.1))), vr 233 0] (zap h (fa h.1.1).1 (fa h.1.1).2 648))
    rw [e]
    refine ⟨nn0 648 (by omega), rfl, by show _ ≤ σ.1.1 + 32; omega, by show _ ≤ σ.1.2.1 + 76821; omega, ?_⟩
    refine wp_ok (cut := [142]) ma_107 rfl 1 _ _ _ _ ?_
    show (233 < (zap (h) 249 0 648).1.1 ∧ Sat false (d + 1) 107 (σ.1.1 + 32, σ.1.2.1 + 76821, σ.1.2.2) Q 142 [some (vr 233 0), none] [] (setR (zap (h) 249 0 648) 233 0 19 (some (249, 0))))
    exact ⟨by show _ < h.1.1 + 1; omega, s16 _ (mk_R (mk_z (k) (by omega) (by omega) 648) (by decide))⟩
  have s14 : ∀ h, MkI 32 σ h 233 0 [(0, 234), (2, 235), (3, 236), (7, 237), (8, 238), (9, 239), (10, 240), (11, 241), (12, 242), (13, 243), (14, 244), (15, 245), (16, 246), (17, 247)] 14 67426 → Sat false (d + 1) 107 (σ.1.1 + 32, σ.1.2.1 + 76821, σ.1.2.2) Q 124 [some (vr 233 0), none] [] h := by
    intro h k
    have c1 : h.1.1 = σ.1.1 + 14 := congrArg Prod.fst k.2.2.2
    have c2 : h.1.2.1 = σ.1.2.1 + 67426 := congrArg (fun q => q.2.1) k.2.2.2
    have e : fa h.1.1 = (248, 0) := by rw [c1]; exact hfa 14 (by omega)
    refine wp_ok (cut := [130]) ma_107 rfl 3 _ _ _ _ ?_
    show (¬ (nI 648) < 0 ∧ fkd (fa h.1.1).1 = (20, 648) ∧ h.1.1 + 1 ≤ (σ.1.1 + 32, σ.1.2.1 + 76821, σ.1.2.2).1 ∧ h.1.2.1 + 648 ≤ (σ.1.1 + 32, σ.1.2.1 + 76821, σ.1.2.2).2.1 ∧ Sat false (d + 1) 107 (σ.1.1 + 32, σ.1.2.1 + 76821, σ.1.2.2) Q 130 [some (vr 233 0), none] [Sum.inr (Sum.inr (some (fa h.1.1))), vr 233 0] (zap h (fa h.1.1).1 (fa h.1.1).2 648))
    rw [e]
    refine ⟨nn0 648 (by omega), rfl, by show _ ≤ σ.1.1 + 32; omega, by show _ ≤ σ.1.2.1 + 76821; omega, ?_⟩
    refine wp_ok (cut := [133]) ma_107 rfl 1 _ _ _ _ ?_
    show (233 < (zap (h) 248 0 648).1.1 ∧ Sat false (d + 1) 107 (σ.1.1 + 32, σ.1.2.1 + 76821, σ.1.2.2) Q 133 [some (vr 233 0), none] [] (setR (zap (h) 248 0 648) 233 0 18 (some (248, 0))))
    exact ⟨by show _ < h.1.1 + 1; omega, s15 _ (mk_R (mk_z (k) (by omega) (by omega) 648) (by decide))⟩
  have s13 : ∀ h, MkI 32 σ h 233 0 [(0, 234), (2, 235), (3, 236), (7, 237), (8, 238), (9, 239), (10, 240), (11, 241), (12, 242), (13, 243), (14, 244), (15, 245), (16, 246)] 13 67414 → Sat false (d + 1) 107 (σ.1.1 + 32, σ.1.2.1 + 76821, σ.1.2.2) Q 116 [some (vr 233 0), none] [] h := by
    intro h k
    have c1 : h.1.1 = σ.1.1 + 13 := congrArg Prod.fst k.2.2.2
    have c2 : h.1.2.1 = σ.1.2.1 + 67414 := congrArg (fun q => q.2.1) k.2.2.2
    have e : fa h.1.1 = (247, 0) := by rw [c1]; exact hfa 13 (by omega)
    refine wp_ok (cut := [121]) ma_107 rfl 3 _ _ _ _ ?_
    show (¬ (nI 12) < 0 ∧ fkd (fa h.1.1).1 = (20, 12) ∧ h.1.1 + 1 ≤ (σ.1.1 + 32, σ.1.2.1 + 76821, σ.1.2.2).1 ∧ h.1.2.1 + 12 ≤ (σ.1.1 + 32, σ.1.2.1 + 76821, σ.1.2.2).2.1 ∧ Sat false (d + 1) 107 (σ.1.1 + 32, σ.1.2.1 + 76821, σ.1.2.2) Q 121 [some (vr 233 0), none] [Sum.inr (Sum.inr (some (fa h.1.1))), vr 233 0] (zap h (fa h.1.1).1 (fa h.1.1).2 12))
    rw [e]
    refine ⟨nn0 12 (by omega), rfl, by show _ ≤ σ.1.1 + 32; omega, by show _ ≤ σ.1.2.1 + 76821; omega, ?_⟩
    refine wp_ok (cut := [124]) ma_107 rfl 1 _ _ _ _ ?_
    show (233 < (zap (h) 247 0 12).1.1 ∧ Sat false (d + 1) 107 (σ.1.1 + 32, σ.1.2.1 + 76821, σ.1.2.2) Q 124 [some (vr 233 0), none] [] (setR (zap (h) 247 0 12) 233 0 17 (some (247, 0))))
    exact ⟨by show _ < h.1.1 + 1; omega, s14 _ (mk_R (mk_z (k) (by omega) (by omega) 12) (by decide))⟩
  have s12 : ∀ h, MkI 32 σ h 233 0 [(0, 234), (2, 235), (3, 236), (7, 237), (8, 238), (9, 239), (10, 240), (11, 241), (12, 242), (13, 243), (14, 244), (15, 245)] 12 66214 → Sat false (d + 1) 107 (σ.1.1 + 32, σ.1.2.1 + 76821, σ.1.2.2) Q 107 [some (vr 233 0), none] [] h := by
    intro h k
    have c1 : h.1.1 = σ.1.1 + 12 := congrArg Prod.fst k.2.2.2
    have c2 : h.1.2.1 = σ.1.2.1 + 66214 := congrArg (fun q => q.2.1) k.2.2.2
    have e : fa h.1.1 = (246, 0) := by rw [c1]; exact hfa 12 (by omega)
    refine wp_ok (cut := [113]) ma_107 rfl 3 _ _ _ _ ?_
    show (¬ (nI 1200) < 0 ∧ fkd (fa h.1.1).1 = (20, 1200) ∧ h.1.1 + 1 ≤ (σ.1.1 + 32, σ.1.2.1 + 76821, σ.1.2.2).1 ∧ h.1.2.1 + 1200 ≤ (σ.1.1 + 32, σ.1.2.1 + 76821, σ.1.2.2).2.1 ∧ Sat false (d + 1) 107 (σ.1.1 + 32, σ.1.2.1 + 76821, σ.1.2.2) Q 113 [some (vr 233 0), none] [Sum.inr (Sum.inr (some (fa h.1.1))), vr 233 0] (zap h (fa h.1.1).1 (fa h.1.1).2 1200))
    rw [e]
    refine ⟨nn0 1200 (by omega), rfl, by show _ ≤ σ.1.1 + 32; omega, by show _ ≤ σ.1.2.1 + 76821; omega, ?_⟩
    refine wp_ok (cut := [116]) ma_107 rfl 1 _ _ _ _ ?_
    show (233 < (zap (h) 246 0 1200).1.1 ∧ Sat false (d + 1) 107 (σ.1.1 + 32, σ.1.2.1 + 76821, σ.1.2.2) Q 116 [some (vr 233 0), none] [] (setR (zap (h) 246 0 1200) 233 0 16 (some (246, 0))))
    exact ⟨by show _ < h.1.1 + 1; omega, s13 _ (mk_R (mk_z (k) (by omega) (by omega) 1200) (by decide))⟩
  have s11 : ∀ h, MkI 32 σ h 233 0 [(0, 234), (2, 235), (3, 236), (7, 237), (8, 238), (9, 239), (10, 240), (11, 241), (12, 242), (13, 243), (14, 244)] 11 45766 → Sat false (d + 1) 107 (σ.1.1 + 32, σ.1.2.1 + 76821, σ.1.2.2) Q 98 [some (vr 233 0), none] [] h := by
    intro h k
    have c1 : h.1.1 = σ.1.1 + 11 := congrArg Prod.fst k.2.2.2
    have c2 : h.1.2.1 = σ.1.2.1 + 45766 := congrArg (fun q => q.2.1) k.2.2.2
    have e : fa h.1.1 = (245, 0) := by rw [c1]; exact hfa 11 (by omega)
    refine wp_ok (cut := [104]) ma_107 rfl 3 _ _ _ _ ?_
    show (¬ (nI 20448) < 0 ∧ fkd (fa h.1.1).1 = (20, 20448) ∧ h.1.1 + 1 ≤ (σ.1.1 + 32, σ.1.2.1 + 76821, σ.1.2.2).1 ∧ h.1.2.1 + 20448 ≤ (σ.1.1 + 32, σ.1.2.1 + 76821, σ.1.2.2).2.1 ∧ Sat false (d + 1) 107 (σ.1.1 + 32, σ.1.2.1 + 76821, σ.1.2.2) Q 104 [some (vr 233 0), none] [Sum.inr (Sum.inr (some (fa h.1.1))), vr 233 0] (zap h (fa h.1.1).1 (fa h.1.1).2 20448))
    rw [e]
    refine ⟨nn0 20448 (by omega), rfl, by show _ ≤ σ.1.1 + 32; omega, by show _ ≤ σ.1.2.1 + 76821; omega, ?_⟩
    refine wp_ok (cut := [107]) ma_107 rfl 1 _ _ _ _ ?_
    show (233 < (zap (h) 245 0 20448).1.1 ∧ Sat false (d + 1) 107 (σ.1.1 + 32, σ.1.2.1 + 76821, σ.1.2.2) Q 107 [some (vr 233 0), none] [] (setR (zap (h) 245 0 20448) 233 0 15 (some (245, 0))))
    exact ⟨by show _ < h.1.1 + 1; omega, s12 _ (mk_R (mk_z (k) (by omega) (by omega) 20448) (by decide))⟩
  have s10 : ∀ h, MkI 32 σ h 233 0 [(0, 234), (2, 235), (3, 236), (7, 237), (8, 238), (9, 239), (10, 240), (11, 241), (12, 242), (13, 243)] 10 33766 → Sat false (d + 1) 107 (σ.1.1 + 32, σ.1.2.1 + 76821, σ.1.2.2) Q 89 [some (vr 233 0), none] [] h := by
    intro h k
    have c1 : h.1.1 = σ.1.1 + 10 := congrArg Prod.fst k.2.2.2
    have c2 : h.1.2.1 = σ.1.2.1 + 33766 := congrArg (fun q => q.2.1) k.2.2.2
    have e : fa h.1.1 = (244, 0) := by rw [c1]; exact hfa 10 (by omega)
    refine wp_ok (cut := [95]) ma_107 rfl 3 _ _ _ _ ?_
    show (¬ (nI 12000) < 0 ∧ fkd (fa h.1.1).1 = (20, 12000) ∧ h.1.1 + 1 ≤ (σ.1.1 + 32, σ.1.2.1 + 76821, σ.1.2.2).1 ∧ h.1.2.1 + 12000 ≤ (σ.1.1 + 32, σ.1.2.1 + 76821, σ.1.2.2).2.1 ∧ Sat false (d + 1) 107 (σ.1.1 + 32, σ.1.2.1 + 76821, σ.1.2.2) Q 95 [some (vr 233 0), none] [Sum.inr (Sum.inr (some (fa h.1.1))), vr 233 0] (zap h (fa h.1.1).1 (fa h.1.1).2 12000))
    rw [e]
    refine ⟨nn0 12000 (by omega), rfl, by show _ ≤ σ.1.1 + 32; omega, by show _ ≤ σ.1.2.1 + 76821; omega, ?_⟩
    refine wp_ok (cut := [98]) ma_107 rfl 1 _ _ _ _ ?_
    show (233 < (zap (h) 244 0 12000).1.1 ∧ Sat false (d + 1) 107 (σ.1.1 + 32, σ.1.2.1 + 76821, σ.1.2.2) Q 98 [some (vr 233 0), none] [] (setR (zap (h) 244 0 12000) 233 0 14 (some (244, 0))))
    exact ⟨by show _ < h.1.1 + 1; omega, s11 _ (mk_R (mk_z (k) (by omega) (by omega) 12000) (by decide))⟩
  have s9 : ∀ h, MkI 32 σ h 233 0 [(0, 234), (2, 235), (3, 236), (7, 237), (8, 238), (9, 239), (10, 240), (11, 241), (12, 242)] 9 32566 → Sat false (d + 1) 107 (σ.1.1 + 32, σ.1.2.1 + 76821, σ.1.2.2) Q 80 [some (vr 233 0), none] [] h := by
    intro h k
    have c1 : h.1.1 = σ.1.1 + 9 := congrArg Prod.fst k.2.2.2
    have c2 : h.1.2.1 = σ.1.2.1 + 32566 := congrArg (fun q => q.2.1) k.2.2.2
    have e : fa h.1.1 = (243, 0) := by rw [c1]; exact hfa 9 (by omega)
    refine wp_ok (cut := [86]) ma_107 rfl 3 _ _ _ _ ?_
    show (¬ (nI 1200) < 0 ∧ fkd (fa h.1.1).1 = (20, 1200) ∧ h.1.1 + 1 ≤ (σ.1.1 + 32, σ.1.2.1 + 76821, σ.1.2.2).1 ∧ h.1.2.1 + 1200 ≤ (σ.1.1 + 32, σ.1.2.1 + 76821, σ.1.2.2).2.1 ∧ Sat false (d + 1) 107 (σ.1.1 + 32, σ.1.2.1 + 76821, σ.1.2.2) Q 86 [some (vr 233 0), none] [Sum.inr (Sum.inr (some (fa h.1.1))), vr 233 0] (zap h (fa h.1.1).1 (fa h.1.1).2 1200))
    rw [e]
    refine ⟨nn0 1200 (by omega), rfl, by show _ ≤ σ.1.1 + 32; omega, by show _ ≤ σ.1.2.1 + 76821; omega, ?_⟩
    refine wp_ok (cut := [89]) ma_107 rfl 1 _ _ _ _ ?_
    show (233 < (zap (h) 243 0 1200).1.1 ∧ Sat false (d + 1) 107 (σ.1.1 + 32, σ.1.2.1 + 76821, σ.1.2.2) Q 89 [some (vr 233 0), none] [] (setR (zap (h) 243 0 1200) 233 0 13 (some (243, 0))))
    exact ⟨by show _ < h.1.1 + 1; omega, s10 _ (mk_R (mk_z (k) (by omega) (by omega) 1200) (by decide))⟩
  have s8 : ∀ h, MkI 32 σ h 233 0 [(0, 234), (2, 235), (3, 236), (7, 237), (8, 238), (9, 239), (10, 240), (11, 241)] 8 31366 → Sat false (d + 1) 107 (σ.1.1 + 32, σ.1.2.1 + 76821, σ.1.2.2) Q 71 [some (vr 233 0), none] [] h := by
    intro h k
    have c1 : h.1.1 = σ.1.1 + 8 := congrArg Prod.fst k.2.2.2
    have c2 : h.1.2.1 = σ.1.2.1 + 31366 := congrArg (fun q => q.2.1) k.2.2.2
    have e : fa h.1.1 = (242, 0) := by rw [c1]; exact hfa 8 (by omega)
    refine wp_ok (cut := [77]) ma_107 rfl 3 _ _ _ _ ?_
    show (¬ (nI 1200) < 0 ∧ fkd (fa h.1.1).1 = (20, 1200) ∧ h.1.1 + 1 ≤ (σ.1.1 + 32, σ.1.2.1 + 76821, σ.1.2.2).1 ∧ h.1.2.1 + 1200 ≤ (σ.1.1 + 32, σ.1.2.1 + 76821, σ.1.2.2).2.1 ∧ Sat false (d + 1) 107 (σ.1.1 + 32, σ.1.2.1 + 76821, σ.1.2.2) Q 77 [some (vr 233 0), none] [Sum.inr (Sum.inr (some (fa h.1.1))), vr 233 0] (zap h (fa h.1.1).1 (fa h.1.1).2 1200))
    rw [e]
    refine ⟨nn0 1200 (by omega), rfl, by show _ ≤ σ.1.1 + 32; omega, by show _ ≤ σ.1.2.1 + 76821; omega, ?_⟩
    refine wp_ok (cut := [80]) ma_107 rfl 1 _ _ _ _ ?_
    show (233 < (zap (h) 242 0 1200).1.1 ∧ Sat false (d + 1) 107 (σ.1.1 + 32, σ.1.2.1 + 76821, σ.1.2.2) Q 80 [some (vr 233 0), none] [] (setR (zap (h) 242 0 1200) 233 0 12 (some (242, 0))))
    exact ⟨by show _ < h.1.1 + 1; omega, s9 _ (mk_R (mk_z (k) (by omega) (by omega) 1200) (by decide))⟩
  have s7 : ∀ h, MkI 32 σ h 233 0 [(0, 234), (2, 235), (3, 236), (7, 237), (8, 238), (9, 239), (10, 240)] 7 31354 → Sat false (d + 1) 107 (σ.1.1 + 32, σ.1.2.1 + 76821, σ.1.2.2) Q 63 [some (vr 233 0), none] [] h := by
    intro h k
    have c1 : h.1.1 = σ.1.1 + 7 := congrArg Prod.fst k.2.2.2
    have c2 : h.1.2.1 = σ.1.2.1 + 31354 := congrArg (fun q => q.2.1) k.2.2.2
    have e : fa h.1.1 = (241, 0) := by rw [c1]; exact hfa 7 (by omega)
    refine wp_ok (cut := [68]) ma_107 rfl 3 _ _ _ _ ?_
    show (¬ (nI 12) < 0 ∧ fkd (fa h.1.1).1 = (20, 12) ∧ h.1.1 + 1 ≤ (σ.1.1 + 32, σ.1.2.1 + 76821, σ.1.2.2).1 ∧ h.1.2.1 + 12 ≤ (σ.1.1 + 32, σ.1.2.1 + 76821, σ.1.2.2).2.1 ∧ Sat false (d + 1) 107 (σ.1.1 + 32, σ.1.2.1 + 76821, σ.1.2.2) Q 68 [some (vr 233 0), none] [Sum.inr (Sum.inr (some (fa h.1.1))), vr 233 0] (zap h (fa h.1.1).1 (fa h.1.1).2 12))
    rw [e]
    refine ⟨nn0 12 (by omega), rfl, by show _ ≤ σ.1.1 + 32; omega, by show _ ≤ σ.1.2.1 + 76821; omega, ?_⟩
    refine wp_ok (cut := [71]) ma_107 rfl 1 _ _ _ _ ?_
    show (233 < (zap (h) 241 0 12).1.1 ∧ Sat false (d + 1) 107 (σ.1.1 + 32, σ.1.2.1 + 76821, σ.1.2.2) Q 71 [some (vr 233 0), none] [] (setR (zap (h) 241 0 12) 233 0 11 (some (241, 0))))
    exact ⟨by show _ < h.1.1 + 1; omega, s8 _ (mk_R (mk_z (k) (by omega) (by omega) 12) (by decide))⟩
  have s6 : ∀ h, MkI 32 σ h 233 0 [(0, 234), (2, 235), (3, 236), (7, 237), (8, 238), (9, 239)] 6 31342 → Sat false (d + 1) 107 (σ.1.1 + 32, σ.1.2.1 + 76821, σ.1.2.2) Q 55 [some (vr 233 0), none] [] h := by
    intro h k
    have c1 : h.1.1 = σ.1.1 + 6 := congrArg Prod.fst k.2.2.2
    have c2 : h.1.2.1 = σ.1.2.1 + 31342 := congrArg (fun q => q.2.1) k.2.2.2
    have e : fa h.1.1 = (240, 0) := by rw [c1]; exact hfa 6 (by omega)
    refine wp_ok (cut := [60]) ma_107 rfl 3 _ _ _ _ ?_
    show (¬ (nI 12) < 0 ∧ fkd (fa h.1.1).1 = (20, 12) ∧ h.1.1 + 1 ≤ (σ.1.1 + 32, σ.1.2.1 + 76821, σ.1.2.2).1 ∧ h.1.2.1 + 12 ≤ (σ.1.1 + 32, σ.1.2.1 + 76821, σ.1.2.2).2.1 ∧ Sat false (d + 1) 107 (σ.1.1 + 32, σ.1.2.1 + 76821, σ.1.2.2) Q 60 [some (vr 233 0), none] [Sum.inr (Sum.inr (some (fa h.1.1))), vr 233 0] (zap h (fa h.1.1).1 (fa h.1.1).2 12))
    rw [e]
    refine ⟨nn0 12 (by omega), rfl, by show _ ≤ σ.1.1 + 32; omega, by show _ ≤ σ.1.2.1 + 76821; omega, ?_⟩
    refine wp_ok (cut := [63]) ma_107 rfl 1 _ _ _ _ ?_
    show (233 < (zap (h) 240 0 12).1.1 ∧ Sat false (d + 1) 107 (σ.1.1 + 32, σ.1.2.1 + 76821, σ.1.2.2) Q 63 [some (vr 233 0), none] [] (setR (zap (h) 240 0 12) 233 0 10 (some (240, 0))))
    exact ⟨by show _ < h.1.1 + 1; omega, s7 _ (mk_R (mk_z (k) (by omega) (by omega) 12) (by decide))⟩
  have s5 : ∀ h, MkI 32 σ h 233 0 [(0, 234), (2, 235), (3, 236), (7, 237), (8, 238)] 5 31330 → Sat false (d + 1) 107 (σ.1.1 + 32, σ.1.2.1 + 76821, σ.1.2.2) Q 47 [some (vr 233 0), none] [] h := by
    intro h k
    have c1 : h.1.1 = σ.1.1 + 5 := congrArg Prod.fst k.2.2.2
    have c2 : h.1.2.1 = σ.1.2.1 + 31330 := congrArg (fun q => q.2.1) k.2.2.2
    have e : fa h.1.1 = (239, 0) := by rw [c1]; exact hfa 5 (by omega)
    refine wp_ok (cut := [52]) ma_107 rfl 3 _ _ _ _ ?_
    show (¬ (nI 12) < 0 ∧ fkd (fa h.1.1).1 = (20, 12) ∧ h.1.1 + 1 ≤ (σ.1.1 + 32, σ.1.2.1 + 76821, σ.1.2.2).1 ∧ h.1.2.1 + 12 ≤ (σ.1.1 + 32, σ.1.2.1 + 76821, σ.1.2.2).2.1 ∧ Sat false (d + 1) 107 (σ.1.1 + 32, σ.1.2.1 + 76821, σ.1.2.2) Q 52 [some (vr 233 0), none] [Sum.inr (Sum.inr (some (fa h.1.1))), vr 233 0] (zap h (fa h.1.1).1 (fa h.1.1).2 12))
    rw [e]
    refine ⟨nn0 12 (by omega), rfl, by show _ ≤ σ.1.1 + 32; omega, by show _ ≤ σ.1.2.1 + 76821; omega, ?_⟩
    refine wp_ok (cut := [55]) ma_107 rfl 1 _ _ _ _ ?_
    show (233 < (zap (h) 239 0 12).1.1 ∧ Sat false (d + 1) 107 (σ.1.1 + 32, σ.1.2.1 + 76821, σ.1.2.2) Q 55 [some (vr 233 0), none] [] (setR (zap (h) 239 0 12) 233 0 9 (some (239, 0))))
    exact ⟨by show _ < h.1.1 + 1; omega, s6 _ (mk_R (mk_z (k) (by omega) (by omega) 12) (by decide))⟩
  have s4 : ∀ h, MkI 32 σ h 233 0 [(0, 234), (2, 235), (3, 236), (7, 237)] 4 31302 → Sat false (d + 1) 107 (σ.1.1 + 32, σ.1.2.1 + 76821, σ.1.2.2) Q 39 [some (vr 233 0), none] [] h := by
    intro h k
    have c1 : h.1.1 = σ.1.1 + 4 := congrArg Prod.fst k.2.2.2
    have c2 : h.1.2.1 = σ.1.2.1 + 31302 := congrArg (fun q => q.2.1) k.2.2.2
    have e : fa h.1.1 = (238, 0) := by rw [c1]; exact hfa 4 (by omega)
    refine wp_ok (cut := [44]) ma_107 rfl 3 _ _ _ _ ?_
    show (¬ (nI 28) < 0 ∧ fkd (fa h.1.1).1 = (20, 28) ∧ h.1.1 + 1 ≤ (σ.1.1 + 32, σ.1.2.1 + 76821, σ.1.2.2).1 ∧ h.1.2.1 + 28 ≤ (σ.1.1 + 32, σ.1.2.1 + 76821, σ.1.2.2).2.1 ∧ Sat false (d + 1) 107 (σ.1.1 + 32, σ.1.2.1 + 76821, σ.1.2.2) Q 44 [some (vr 233 0), none] [Sum.inr (Sum.inr (some (fa h.1.1))), vr 233 0] (zap h (fa h.1.1).1 (fa h.1.1).2 28))
    rw [e]
    refine ⟨nn0 28 (by omega), rfl, by show _ ≤ σ.1.1 + 32; omega, by show _ ≤ σ.1.2.1 + 76821; omega, ?_⟩
    refine wp_ok (cut := [47]) ma_107 rfl 1 _ _ _ _ ?_
    show (233 < (zap (h) 238 0 28).1.1 ∧ Sat false (d + 1) 107 (σ.1.1 + 32, σ.1.2.1 + 76821, σ.1.2.2) Q 47 [some (vr 233 0), none] [] (setR (zap (h) 238 0 28) 233 0 8 (some (238, 0))))
    exact ⟨by show _ < h.1.1 + 1; omega, s5 _ (mk_R (mk_z (k) (by omega) (by omega) 28) (by decide))⟩
  have s3 : ∀ h, MkI 32 σ h 233 0 [(0, 234), (2, 235), (3, 236)] 3 31290 → Sat false (d + 1) 107 (σ.1.1 + 32, σ.1.2.1 + 76821, σ.1.2.2) Q 31 [some (vr 233 0), none] [] h := by
    intro h k
    have c1 : h.1.1 = σ.1.1 + 3 := congrArg Prod.fst k.2.2.2
    have c2 : h.1.2.1 = σ.1.2.1 + 31290 := congrArg (fun q => q.2.1) k.2.2.2
    have e : fa h.1.1 = (237, 0) := by rw [c1]; exact hfa 3 (by omega)
    refine wp_ok (cut := [36]) ma_107 rfl 3 _ _ _ _ ?_
    show (¬ (nI 12) < 0 ∧ fkd (fa h.1.1).1 = (20, 12) ∧ h.1.1 + 1 ≤ (σ.1.1 + 32, σ.1.2.1 + 76821, σ.1.2.2).1 ∧ h.1.2.1 + 12 ≤ (σ.1.1 + 32, σ.1.2.1 + 76821, σ.1.2.2).2.1 ∧ Sat false (d + 1) 107 (σ.1.1 + 32, σ.1.2.1 + 76821, σ.1.2.2) Q 36 [some (vr 233 0), none] [Sum.inr (Sum.inr (some (fa h.1.1))), vr 233 0] (zap h (fa h.1.1).1 (fa h.1.1).2 12))
    rw [e]
    refine ⟨nn0 12 (by omega), rfl, by show _ ≤ σ.1.1 + 32; omega, by show _ ≤ σ.1.2.1 + 76821; omega, ?_⟩
    refine wp_ok (cut := [39]) ma_107 rfl 1 _ _ _ _ ?_
    show (233 < (zap (h) 237 0 12).1.1 ∧ Sat false (d + 1) 107 (σ.1.1 + 32, σ.1.2.1 + 76821, σ.1.2.2) Q 39 [some (vr 233 0), none] [] (setR (zap (h) 237 0 12) 233 0 7 (some (237, 0))))
    exact ⟨by show _ < h.1.1 + 1; omega, s4 _ (mk_R (mk_z (k) (by omega) (by omega) 12) (by decide))⟩
  have s2 : ∀ h, MkI 32 σ h 233 0 [(0, 234), (2, 235)] 2 2990 → Sat false (d + 1) 107 (σ.1.1 + 32, σ.1.2.1 + 76821, σ.1.2.2) Q 22 [some (vr 233 0), none] [] h := by
    intro h k
    have c1 : h.1.1 = σ.1.1 + 2 := congrArg Prod.fst k.2.2.2
    have c2 : h.1.2.1 = σ.1.2.1 + 2990 := congrArg (fun q => q.2.1) k.2.2.2
    have e : fa h.1.1 = (236, 0) := by rw [c1]; exact hfa 2 (by omega)
    refine wp_ok (cut := [28]) ma_107 rfl 3 _ _ _ _ ?_
    show (¬ (nI 28300) < 0 ∧ fkd (fa h.1.1).1 = (20, 28300) ∧ h.1.1 + 1 ≤ (σ.1.1 + 32, σ.1.2.1 + 76821, σ.1.2.2).1 ∧ h.1.2.1 + 28300 ≤ (σ.1.1 + 32, σ.1.2.1 + 76821, σ.1.2.2).2.1 ∧ Sat false (d + 1) 107 (σ.1.1 + 32, σ.1.2.1 + 76821, σ.1.2.2) Q 28 [some (vr 233 0), none] [Sum.inr (Sum.inr (some (fa h.1.1))), vr 233 0] (zap h (fa h.1.1).1 (fa h.1.1).2 28300))
    rw [e]
    refine ⟨nn0 28300 (by omega), rfl, by show _ ≤ σ.1.1 + 32; omega, by show _ ≤ σ.1.2.1 + 76821; omega, ?_⟩
    refine wp_ok (cut := [31]) ma_107 rfl 1 _ _ _ _ ?_
    show (233 < (zap (h) 236 0 28300).1.1 ∧ Sat false (d + 1) 107 (σ.1.1 + 32, σ.1.2.1 + 76821, σ.1.2.2) Q 31 [some (vr 233 0), none] [] (setR (zap (h) 236 0 28300) 233 0 3 (some (236, 0))))
    exact ⟨by show _ < h.1.1 + 1; omega, s3 _ (mk_R (mk_z (k) (by omega) (by omega) 28300) (by decide))⟩
  have s1 : ∀ h, MkI 32 σ h 233 0 [(0, 234)] 1 160 → Sat false (d + 1) 107 (σ.1.1 + 32, σ.1.2.1 + 76821, σ.1.2.2) Q 13 [some (vr 233 0), none] [] h := by
    intro h k
    have c1 : h.1.1 = σ.1.1 + 1 := congrArg Prod.fst k.2.2.2
    have c2 : h.1.2.1 = σ.1.2.1 + 160 := congrArg (fun q => q.2.1) k.2.2.2
    have e : fa h.1.1 = (235, 0) := by rw [c1]; exact hfa 1 (by omega)
    refine wp_ok (cut := [19]) ma_107 rfl 3 _ _ _ _ ?_
    show (¬ (nI 2830) < 0 ∧ fkd (fa h.1.1).1 = (20, 2830) ∧ h.1.1 + 1 ≤ (σ.1.1 + 32, σ.1.2.1 + 76821, σ.1.2.2).1 ∧ h.1.2.1 + 2830 ≤ (σ.1.1 + 32, σ.1.2.1 + 76821, σ.1.2.2).2.1 ∧ Sat false (d + 1) 107 (σ.1.1 + 32, σ.1.2.1 + 76821, σ.1.2.2) Q 19 [some (vr 233 0), none] [Sum.inr (Sum.inr (some (fa h.1.1))), vr 233 0] (zap h (fa h.1.1).1 (fa h.1.1).2 2830))
    rw [e]
    refine ⟨nn0 2830 (by omega), rfl, by show _ ≤ σ.1.1 + 32; omega, by show _ ≤ σ.1.2.1 + 76821; omega, ?_⟩
    refine wp_ok (cut := [22]) ma_107 rfl 1 _ _ _ _ ?_
    show (233 < (zap (h) 235 0 2830).1.1 ∧ Sat false (d + 1) 107 (σ.1.1 + 32, σ.1.2.1 + 76821, σ.1.2.2) Q 22 [some (vr 233 0), none] [] (setR (zap (h) 235 0 2830) 233 0 2 (some (235, 0))))
    exact ⟨by show _ < h.1.1 + 1; omega, s2 _ (mk_R (mk_z (k) (by omega) (by omega) 2830) (by decide))⟩
  have s0 : ∀ h, MkI 32 σ h 233 0 [] 0 0 → Sat false (d + 1) 107 (σ.1.1 + 32, σ.1.2.1 + 76821, σ.1.2.2) Q 0 [some (vr 233 0), none] [] h := by
    intro h k
    have c1 : h.1.1 = σ.1.1 + 0 := congrArg Prod.fst k.2.2.2
    have c2 : h.1.2.1 = σ.1.2.1 + 0 := congrArg (fun q => q.2.1) k.2.2.2
    have e : fa h.1.1 = (234, 0) := by rw [c1]; exact hfa 0 (by omega)
    refine wp_ok (cut := [10]) ma_107 rfl 5 _ _ _ _ ?_
    show (¬ (nI 160) < 0 ∧ fkd (fa h.1.1).1 = (20, 160) ∧ h.1.1 + 1 ≤ (σ.1.1 + 32, σ.1.2.1 + 76821, σ.1.2.2).1 ∧ h.1.2.1 + 160 ≤ (σ.1.1 + 32, σ.1.2.1 + 76821, σ.1.2.2).2.1 ∧ Sat false (d + 1) 107 (σ.1.1 + 32, σ.1.2.1 + 76821, σ.1.2.2) Q 10 [some (vr 233 0), none] [Sum.inr (Sum.inr (some (fa h.1.1))), vr 233 0] (zap h (fa h.1.1).1 (fa h.1.1).2 160))
    rw [e]
    refine ⟨nn0 160 (by omega), rfl, by show _ ≤ σ.1.1 + 32; omega, by show _ ≤ σ.1.2.1 + 76821; omega, ?_⟩
    refine wp_ok (cut := [13]) ma_107 rfl 1 _ _ _ _ ?_
    show (233 < (zap (h) 234 0 160).1.1 ∧ Sat false (d + 1) 107 (σ.1.1 + 32, σ.1.2.1 + 76821, σ.1.2.2) Q 13 [some (vr 233 0), none] [] (setR (zap (h) 234 0 160) 233 0 0 (some (234, 0))))
    exact ⟨by show _ < h.1.1 + 1; omega, s1 _ (mk_R (mk_z (k) (by omega) (by omega) 160) (by decide))⟩
  exact s0 σ (mk_0 σ 233 0)
