/-! the class's Outline.read, Site.readSource -/
theorem lkEl_b (own a : Nat) {e : Elem} (h : gEl e) : 4 * (lkEl own a e).length ≤ (txEl e).length + 1 := by
  rcases e with w | ⟨l, c⟩
  · exact Nat.zero_le _
  · have e5 : (txEl (.inr (l, c))).length = (txLink l c).length + 2 := by
      show (91 :: (txLink l c ++ [93])).length = _
      rw [List.length_cons, List.length_append]
      rfl
    have e6 : 1 ≤ (txLink l c).length := by
      unfold txLink
      rw [List.length_append]
      cases l with
      | none =>
        cases c with
        | none => exact absurd rfl (h.2.2 rfl)
        | some z => show 1 ≤ 0 + (35 :: txAnc z).length; rw [List.length_cons]; omega
      | some q => show 1 ≤ 1 + _; omega
    show 4 * 1 ≤ _
    omega
theorem lkEls_b (own : Nat) : ∀ {es : List Elem} (a : Nat), (∀ e ∈ es, gEl e) → 4 * (lkEls own a es).length ≤ (txEls es).length + 1 := by
  intro es
  induction es with
  | nil => intro a _; exact Nat.zero_le _
  | cons e r ih =>
    intro a hg
    have h1 := lkEl_b own a (hg e List.mem_cons_self)
    have h2 := ih (a + (txEl e).length + 1) fun y hy => hg y (List.mem_cons_of_mem _ hy)
    have e1 : (lkEls own a (e :: r)).length = (lkEl own a e).length + (lkEls own (a + (txEl e).length + 1) r).length := List.length_append
    cases r with
    | nil =>
      have e2 : (lkEls own (a + (txEl e).length + 1) []).length = 0 := rfl
      show 4 * _ ≤ (txEl e).length + 1
      omega
    | cons f r' =>
      have e2 : (txEls (e :: f :: r')).length = (txEl e).length + ((txEls (f :: r')).length + 1) := by
        show (txEl e ++ 44 :: txEls (f :: r')).length = _
        rw [List.length_append, List.length_cons]
      omega
theorem lkPg_b (own : Nat) : ∀ {ls : List Line} (a : Nat), gPg ls → 4 * (lkPg own a ls).length ≤ (txPg ls).length + 1 := by
  intro ls
  induction ls with
  | nil => intro a _; exact Nat.zero_le _
  | cons l r ih =>
    intro a hg
    have gl := hg l List.mem_cons_self
    have h1 : 4 * (lkLine own a l).length ≤ (txLine l).length + 1 := by
      rcases l with vw | qs | es
      · exact Nat.zero_le _
      · exact Nat.zero_le _
      · exact lkEls_b own a gl.2
    have h2 := ih (a + (txLine l).length + 1) fun y hy => hg y (List.mem_cons_of_mem _ hy)
    have e1 : (lkPg own a (l :: r)).length = (lkLine own a l).length + (lkPg own (a + (txLine l).length + 1) r).length := List.length_append
    cases r with
    | nil =>
      have e2 : (lkPg own (a + (txLine l).length + 1) []).length = 0 := rfl
      show 4 * _ ≤ (txLine l).length + 1
      omega
    | cons f r' =>
      have e2 : (txPg (l :: f :: r')).length = (txLine l).length + ((txPg (f :: r')).length + 1) := by
        rw [txPg_cons l (fun q => by cases q), List.length_append, List.length_cons]
      omega
def OutC (σ : Hp) (p o : Nat) (ls : List Line) : Prop := OI σ p ls ∧ hI σ 21 p 8 = nI (lkPg p o ls).length ∧ All (lkPg p o ls) (LinkC σ p)
theorem OI_cong {h h' : Hp} {p : Nat} {dl : List Line} (hs : ∀ k, k ≠ 8 → hI h' 21 p k = hI h 21 p k) (hf : ∀ f, 22 ≤ f → f ≤ 31 → (f ≤ 25 ∨ 30 ≤ f) → hI h' f p = hI h f p ∧ hL h' f p = hL h f p) (k : OI h p dl) : OI h' p dl := by
  obtain ⟨h0, h1, hk, h6, h7, h13, hsc⟩ := k
  refine ⟨(hs 0 (by decide)).trans h0, (hs 1 (by decide)).trans h1, ?_, (hs 6 (by decide)).trans h6, (hs 7 (by decide)).trans h7, (hs 13 (by decide)).trans h13, ?_⟩
  · exact All_mo hk fun j y _ k => KindC_cong (by rw [(hf 22 (by omega) (by omega) (by omega)).1]) (by rw [(hf 23 (by omega) (by omega) (by omega)).2]) (by rw [(hf 24 (by omega) (by omega) (by omega)).1]) (by rw [(hf 25 (by omega) (by omega) (by omega)).1]) k
  · exact All_mo hsc fun j y _ k => ⟨by rw [(hf 30 (by omega) (by omega) (by omega)).1]; exact k.1, by rw [(hf 31 (by omega) (by omega) (by omega)).1]; exact k.2⟩
theorem e_readLinks (d : Nat) {σ : Hp} {p o x : Nat} {ls : List Line} (hp : p < 12) (h0 : hI σ 21 p 0 = nI p) (h8 : hI σ 21 p 8 = nI 0) (hg : gPg ls) (ht : Tx (hI σ 9 0) o (txPg ls)) (hx : x = o + (txPg ls).length) (h160 : (txPg ls).length ≤ 160) (hN : x ≤ 1920) : PV (d + 3) 26 [vr 21 p, vr 9 0, vi (nI o), vi (nI x)] σ (fun h => LI σ h p (lkPg p o ls)) := by
  refine PV_of mt_26 (Nat.le_of_ble_eq_true rfl) fun Q hq => ?_
  have hb := lkPg_b p o hg
  refine wp_ok (cut := [6]) ma_26 rfl 4 _ _ _ _ ?_
  show Sat true (d + 3) 26 σ.1 Q 6 [some (vr 21 p), some (vr 9 0), some (vi (nI o)), some (vi (nI x)), some (vi (nI o)), some (vi (nI o))] [] σ
  exact s_lines hp hN h0 (by omega) hq ls o o σ [] hg ht hx ⟨h8, All_nil, fun _ _ => rfl, Fr.rfl' _ _⟩ rfl
theorem s_read (d : Nat) {σ : Hp} {p o x : Nat} {ls : List Line} (hp : p < 12) (hg : gPg ls) (ht : Tx (hI σ 9 0) o (txPg ls)) (hx : x = o + (txPg ls).length) (h160 : (txPg ls).length ≤ 160) (hN : x ≤ 1920) (Q : Option AV → Hp → Prop) (hq : ∀ h, OutC h p o ls → Fr (OutF p) σ h → Q none h) : ∀ (rl dl : List Line) (a : Nat) (h : Hp), ls = dl ++ rl → (rl ≠ [] → Tx (hI σ 9 0) a (txPg rl) ∧ x = a + (txPg rl).length) → (rl = [] → x ≤ a ∧ a ≤ x + 1) → OI h p dl → hI h 21 p 8 = nI 0 → Fr (OutF p) σ h → Sat true (d + 4) 22 σ.1 Q 28 [some (vr 21 p), some (vr 9 0), some (vi (nI o)), some (vi (nI x)), some (vi (nI a)), none] [] h := by
  have hl2 := txPg_len hg
  have hs3 := nHd_b hg
  intro rl
  induction rl with
  | nil =>
    intro dl a h hls _ ha hi h8 hf
    rw [List.append_nil] at hls
    subst hls
    obtain ⟨ha, ha2⟩ := ha rfl
    have t9 : Tx (hI h 9 0) o (txPg ls) := by
      rw [(hf.2 9 0 (fun q => by have := q.1; omega)).1]
      exact ht
    have fin : CalV true (d + 3) 26 [vr 21 p, vr 9 0, vi (nI o), vi (nI x)] h σ.1 (fun s => Q none s ∧ s.1 = σ.1) := by
      refine cp_v (e_readLinks d hp hi.1 h8 hg t9 hx h160 hN) hf.1 (fun h' k e => ⟨hq h' ⟨OI_cong k.2.2.1 (fun f f1 f2 f3 => ?_) hi, k.1, k.2.1⟩ (hf.tr (k.2.2.2.mo fun f i q => ⟨by have := q.1; omega, q.2⟩)), e⟩)
      have := k.2.2.2.2 f p (fun q => by have := q.1; omega)
      exact ⟨this.1, this.2.1⟩
    refine wp_ok (cut := [28]) ma_22 rfl 29 _ _ _ _ ?_
    show (p < 12 ∧ (((nI 80) ≤ (hI h 21 p 1) → (p < 12 ∧ CalV true (d + 3) 26 [vr 21 p, vr 9 0, vi (nI o), vi (nI x)] h σ.1 (fun s1 => (Q none s1 ∧ s1.1 = σ.1)))) ∧ (¬ (nI 80) ≤ (hI h 21 p 1) → (((nI x) ≤ (nI a) → (p < 12 ∧ CalV true (d + 3) 26 [vr 21 p, vr 9 0, vi (nI o), vi (nI x)] h σ.1 (fun s2 => (Q none s2 ∧ s2.1 = σ.1)))) ∧ (¬ (nI x) ≤ (nI a) → CalI true (d + 3) 4 [vr 9 0, vi (nI a), vi (nI x), vi (nI 59)] h σ.1 (fun x4 s3 => (p < 12 ∧ CalV true (d + 3) 23 [vr 21 p, vr 9 0, vi (nI a), vi x4] s3 σ.1 (fun s5 => (p < 12 ∧ (p < 12 ∧ Sat true (d + 4) 22 σ.1 Q 28 [some (vr 21 p), some (vr 9 0), some (vi (nI o)), some (vi (nI x)), some (vi (x4 + (nI 1))), some (vi x4)] [] (setI s5 21 p 1 ((hI s5 21 p 1) + (nI 1)))))))))))))
    rw [hi.2.1]
    exact ⟨hp, br_le (by omega) (by omega) (fun _ => ⟨hp, fin⟩) (fun _ => br_le (by omega) (by omega) (fun _ => ⟨hp, fin⟩) (fun g => by omega))⟩
  | cons l r ih =>
    intro dl a h hls hr _ hi h8 hf
    obtain ⟨ta, hxa⟩ := hr (fun q => by cases q)
    have gl : gLine l := hg l (by rw [hls]; exact List.mem_append.mpr (Or.inr List.mem_cons_self))
    have hdl : dl.length + (r.length + 1) = ls.length := by rw [hls, List.length_append, List.length_cons]
    have hhd : nHd ls = nHd dl + (isHd l + nHd r) := by rw [hls, nHd_app]; rfl
    have hT : hI h 9 0 = hI σ 9 0 := (hf.2 9 0 (fun q => by have := q.1; omega)).1
    have hlen := txLine_len gl
    have tl : Tx (hI σ 9 0) a (txLine l) ∧ a + (txLine l).length ≤ x ∧ (a + (txLine l).length < x → hI σ 9 0 (a + (txLine l).length) = nI 59) ∧ (r ≠ [] → Tx (hI σ 9 0) (a + (txLine l).length + 1) (txPg r) ∧ x = a + (txLine l).length + 1 + (txPg r).length) ∧ (r = [] → x ≤ a + (txLine l).length + 1 ∧ a + (txLine l).length + 1 ≤ x + 1) := by
      cases r with
      | nil =>
        have hxa : x = a + (txLine l).length := hxa
        exact ⟨ta, by omega, fun g => by omega, fun q => absurd rfl q, fun _ => by omega⟩
      | cons f r' =>
        have ta : Tx (hI σ 9 0) a (txLine l ++ 59 :: txPg (f :: r')) := ta
        obtain ⟨t1, t2, t3⟩ := Tx_app.mp ta
        have hxa : x = a + (txLine l ++ 59 :: txPg (f :: r')).length := hxa
        rw [List.length_append, List.length_cons] at hxa
        exact ⟨t1, by omega, fun _ => t2, fun _ => ⟨t3, by omega⟩, fun q => by cases q⟩
    obtain ⟨t1, t2, t3, t4, t5⟩ := tl
    have hsl : (secs dl).length = 0 + nHd dl := secs_len dl []
    refine wp_ok (cut := [28]) ma_22 rfl 29 _ _ _ _ ?_
    show (p < 12 ∧ (((nI 80) ≤ (hI h 21 p 1) → (p < 12 ∧ CalV true (d + 3) 26 [vr 21 p, vr 9 0, vi (nI o), vi (nI x)] h σ.1 (fun s1 => (Q none s1 ∧ s1.1 = σ.1)))) ∧ (¬ (nI 80) ≤ (hI h 21 p 1) → (((nI x) ≤ (nI a) → (p < 12 ∧ CalV true (d + 3) 26 [vr 21 p, vr 9 0, vi (nI o), vi (nI x)] h σ.1 (fun s2 => (Q none s2 ∧ s2.1 = σ.1)))) ∧ (¬ (nI x) ≤ (nI a) → CalI true (d + 3) 4 [vr 9 0, vi (nI a), vi (nI x), vi (nI 59)] h σ.1 (fun x4 s3 => (p < 12 ∧ CalV true (d + 3) 23 [vr 21 p, vr 9 0, vi (nI a), vi x4] s3 σ.1 (fun s5 => (p < 12 ∧ (p < 12 ∧ Sat true (d + 4) 22 σ.1 Q 28 [some (vr 21 p), some (vr 9 0), some (vi (nI o)), some (vi (nI x)), some (vi (x4 + (nI 1))), some (vi x4)] [] (setI s5 21 p 1 ((hI s5 21 p 1) + (nI 1)))))))))))))
    rw [hi.2.1]
    refine ⟨hp, br_le (by omega) (by omega) (fun g => by omega) (fun _ => br_le (by omega) (by omega) (fun g => by omega) (fun _ => ?_))⟩
    refine cal_i (e_indexOf9 (d + 3) (c := 59) (by decide) (w := txLine l) (txLine_s gl) (by rw [hT]; exact t1) t2 (by rw [hT]; exact t3) hN) hf.1 ⟨hp, ?_⟩
    refine cp_v (e_addLine (d + 1) hp hi gl (by omega) (by omega) rfl (by omega) (by rw [hT]; exact t1)) hf.1 (fun h' k e => ?_)
    obtain ⟨k1, k2, k3, k4⟩ := k
    rw [k1, addN, addN]
    refine ⟨hp, hp, ?_⟩
    refine Sat_no 5 (ih (dl ++ [l]) (a + (txLine l).length + 1) (setI h' 21 p 1 (nI (dl.length + 1))) (by rw [hls, List.append_assoc]; rfl) t4 t5 k2 ?_ ((hf.tr k4).sI ⟨by omega, rfl⟩ _ _))
    rw [hI_k _ _ _ _ (by decide), k3]
    exact h8
theorem e_read (d : Nat) {σ : Hp} {p o x : Nat} {ls : List Line} (hp : p < 12) (h0 : hI σ 21 p 0 = nI p) (hg : gPg ls) (ht : Tx (hI σ 9 0) o (txPg ls)) (hx : x = o + (txPg ls).length) (h160 : (txPg ls).length ≤ 160) (hN : x ≤ 1920) : PV (d + 4) 22 [vr 21 p, vr 9 0, vi (nI o), vi (nI x)] σ (fun h => OutC h p o ls ∧ Fr (OutF p) σ h) := by
  refine PV_of mt_22 (Nat.le_of_ble_eq_true rfl) fun Q hq => ?_
  refine wp_ok (cut := [28]) ma_22 rfl 17 _ _ _ _ ?_
  show (p < 12 ∧ (p < 12 ∧ (p < 12 ∧ (p < 12 ∧ (p < 12 ∧ Sat true (d + 4) 22 σ.1 Q 28 [some (vr 21 p), some (vr 9 0), some (vi (nI o)), some (vi (nI x)), some (vi (nI o)), none] [] (setI (setI (setI (setI (setI σ 21 p 1 (nI 0)) 21 p 6 (nI 0)) 21 p 7 (nI 0)) 21 p 8 (nI 0)) 21 p 13 (nI 0)))))))
  simp only [hp, true_and]
  refine s_read d hp hg ht hx h160 hN Q (fun h k1 k2 => hq h ⟨k1, k2⟩) ls [] o _ rfl (fun _ => ⟨ht, hx⟩) (fun e => ?_) ⟨?_, ?_, All_nil, ?_, ?_, ?_, All_nil⟩ ?_ ?_
  · rw [e] at hx
    have hx : x = o := hx
    omega
  · simp (disch := omega) only [hI_s, hI_k, hI_f, hI_sL, hL_sI, hL_s, hL_k, hL_f]
    exact h0
  · simp (disch := omega) only [hI_s, hI_k, hI_f, hI_sL, hL_sI, hL_s, hL_k, hL_f]
    rfl
  · simp (disch := omega) only [hI_s, hI_k, hI_f, hI_sL, hL_sI, hL_s, hL_k, hL_f]
    rfl
  · simp (disch := omega) only [hI_s, hI_k, hI_f, hI_sL, hL_sI, hL_s, hL_k, hL_f]
    rfl
  · simp (disch := omega) only [hI_s, hI_k, hI_f, hI_sL, hL_sI, hL_s, hL_k, hL_f]
    rfl
  · simp (disch := omega) only [hI_s, hI_k, hI_f, hI_sL, hL_sI, hL_s, hL_k, hL_f]
  · exact (((((Fr.rfl' (OutF p) σ).sI (f := 21) ⟨by omega, rfl⟩ _ _).sI (f := 21) ⟨by omega, rfl⟩ _ _).sI (f := 21) ⟨by omega, rfl⟩ _ _).sI (f := 21) ⟨by omega, rfl⟩ _ _).sI (f := 21) ⟨by omega, rfl⟩ _ _
/-- the source of a page in the State j: its text and its length -/
def SrcC (σ : Hp) (j p : Nat) (ls : List Line) : Prop := gPg ls ∧ (txPg ls).length ≤ 160 ∧ hI σ 10 j p = nI (txPg ls).length ∧ Tx (hI σ 9 j) (160 * p) (txPg ls)
theorem e_readSource (d : Nat) {σ : Hp} {p : Nat} {ls : List Line} (hp : p < 12) (h0 : hI σ 21 p 0 = nI p) (hs : SrcC σ 0 p ls) : PV (d + 5) 51 [vr 7 0, vi (nI p)] σ (fun h => OutC h p (160 * p) ls ∧ Fr (OutF p) σ h) := by
  obtain ⟨g1, g2, g3, g4⟩ := hs
  refine PV_of mt_51 (Nat.le_of_ble_eq_true rfl) fun Q hq => ?_
  have e1 : nI p * nI 160 = nI (160 * p) := by rw [mulN, Nat.mul_comm]
  refine wp_ok (cut := []) ma_51 rfl 21 _ _ _ _ ?_
  show (vp_in (nI p) 12 ∧ (vp_in (nI p) 12 ∧ ((nI p).toNatClampNeg < 12 ∧ CalV true (d + 4) 22 [vr 21 ((nI p).toNatClampNeg), vr 9 0, vi ((nI p) * (nI 160)), vi (((nI p) * (nI 160)) + (hI σ 10 0 ((nI p).toNatClampNeg)))] σ σ.1 (fun s1 => (Q none s1 ∧ s1.1 = σ.1)))))
  rw [e1, ix (by omega), g3, addN]
  exact ⟨inb (by omega) (by omega), inb (by omega) (by omega), hp, cp_v (e_read d hp h0 g1 g4 rfl g2 (by omega)) rfl fun h k e => ⟨hq h k, e⟩⟩
