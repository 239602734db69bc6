/-! every word that the machine's rows ask for is among wT, and stays -/
theorem warm {w : Cond} (hw : okW w = true) {args a' : Array Value} {s U : State} (h : w.before args s = true) (hW : s.WarmedH U.vm) : w.before a' U = true := by
  by_cases g : goodWord w = true
  · exact word_at hW (good_of_word g) h
  · cases w with
    | methodLinkNest a i x hh => exact va_Nw.use rfl (va_Nw.warmM hW (va_Nw.of rfl h))
    | arrayOver t =>
      cases t with
      | object C => exact va_AO.use (va_AO.moved hW.alike (va_AO.of h))
      | _ => simp [okW, g] at hw
    | _ => simp [okW, g] at hw
theorem mem_sel {α : Type} {sel : Cond → Option α} {L : List α} (h : lw_tbl.filterMap sel = L) {a : α} (ha : a ∈ L) : ∃ w ∈ lw_tbl, sel w = some a := by
  rw [← h] at ha
  exact List.mem_filterMap.mp ha
theorem map_mem {α β γ : Type} {L1 : List α} {L2 : List β} {f : α → γ} {g : β → γ} (h : L1.map f = L2.map g) {j : β} (hj : j ∈ L2) : ∃ i ∈ L1, f i = g j := by
  have h1 : g j ∈ L1.map f := by rw [h]; exact List.mem_map_of_mem hj
  obtain ⟨i, hi, e⟩ := List.mem_map.mp h1
  exact ⟨i, hi, e⟩
theorem w_code {y : MethodName} {b : ByteArray} {n : Nat} {r : Option FieldType} (h : (y, b, n, r) ∈ slC_l) : Cond.code y b n r ∈ wT := by
  obtain ⟨w, hw, e⟩ := mem_sel slC_ok h
  cases w <;> simp [slC] at e
  obtain ⟨rfl, rfl, rfl, rfl⟩ := e
  exact List.mem_filter.mpr ⟨hw, rfl⟩
theorem w_static {y : MethodName} (h : y ∈ slS_l) : Cond.static y ∈ wT := by
  obtain ⟨w, hw, e⟩ := mem_sel slS_ok h
  cases w <;> simp [slS] at e
  subst e
  exact List.mem_filter.mpr ⟨hw, rfl⟩
theorem w_inst {y : MethodName} (h : y ∈ slI_l) : Cond.instanceMethod y ∈ wT := by
  obtain ⟨w, hw, e⟩ := mem_sel slI_ok h
  cases w <;> simp [slI] at e
  subst e
  exact List.mem_filter.mpr ⟨hw, rfl⟩
theorem w_sel {c : String} {y y' : MethodName} (h : (c, y, y') ∈ slV_l) : Cond.selects c y y' ∈ wT := by
  obtain ⟨w, hw, e⟩ := mem_sel slV_ok h
  cases w <;> simp [slV] at e
  obtain ⟨rfl, rfl, rfl⟩ := e
  exact List.mem_filter.mpr ⟨hw, rfl⟩
theorem w_ini {c : String} (h : slN_l.elem c = true) : Cond.initialized c ∈ wT := by
  obtain ⟨w, hw, e⟩ := mem_sel slN_ok (List.elem_iff.mp h)
  cases w <;> simp [slN] at e
  subst e
  exact List.mem_filter.mpr ⟨hw, rfl⟩
theorem w_link {o : String} {i : Nat} {y : MethodName} (h : (o, i, y) ∈ slM_l) : Cond.methodLink o i y ∈ wT := by
  obtain ⟨w, hw, e⟩ := mem_sel slM_ok h
  cases w <;> simp [slM] at e
  obtain ⟨rfl, rfl, rfl⟩ := e
  exact List.mem_filter.mpr ⟨hw, rfl⟩
theorem w_nest {o h' : String} {i : Nat} {y : MethodName} (h : (o, i, y, h') ∈ slH_l) : Cond.methodLinkNest o i y h' ∈ wT := by
  obtain ⟨w, hw, e⟩ := mem_sel slH_ok h
  cases w <;> simp [slH] at e
  obtain ⟨rfl, rfl, rfl, rfl⟩ := e
  exact List.mem_filter.mpr ⟨hw, by simp [okW]⟩
theorem w_field {o r n d : String} {i : Nat} (h : (o, i, r, n, d) ∈ slF_l) : Cond.fieldLink o i r n d ∈ wT := by
  obtain ⟨w, hw, e⟩ := mem_sel slF_ok h
  cases w <;> simp [slF] at e
  obtain ⟨rfl, rfl, rfl, rfl, rfl⟩ := e
  exact List.mem_filter.mpr ⟨hw, rfl⟩
theorem w_class {o c : String} {i : Nat} (h : (o, i, c) ∈ slK_l) : Cond.classLink o i c ∈ wT := by
  obtain ⟨w, hw, e⟩ := mem_sel slK_ok h
  cases w <;> simp [slK] at e
  obtain ⟨rfl, rfl, rfl⟩ := e
  exact List.mem_filter.mpr ⟨hw, rfl⟩
theorem w_con {o : String} {i : Nat} {v : Int32} (h : (o, i, v) ∈ slX_l) : Cond.constant o i v ∈ wT := by
  obtain ⟨w, hw, e⟩ := mem_sel slX_ok h
  cases w <;> simp [slX] at e
  obtain ⟨rfl, rfl, rfl⟩ := e
  exact List.mem_filter.mpr ⟨hw, rfl⟩
theorem w_conL {o : String} {i : Nat} {v : Int64} (h : (o, i, v) ∈ slY_l) : Cond.constantLong o i v ∈ wT := by
  obtain ⟨w, hw, e⟩ := mem_sel slY_ok h
  cases w <;> simp [slY] at e
  obtain ⟨rfl, rfl, rfl⟩ := e
  exact List.mem_filter.mpr ⟨hw, rfl⟩
theorem w_arr {t : FieldType} (h : t ∈ slA_l) : Cond.arrayClass t ∈ wT := by
  obtain ⟨w, hw, e⟩ := mem_sel slA_ok h
  cases w <;> simp [slA] at e
  subst e
  exact List.mem_filter.mpr ⟨hw, rfl⟩
theorem w_over {c : String} (h : FieldType.object c ∈ slO_l) : Cond.arrayOver (.object c) ∈ wT := by
  obtain ⟨w, hw, e⟩ := mem_sel slO_ok h
  cases w <;> simp [slO] at e
  subst e
  exact List.mem_filter.mpr ⟨hw, by simp [okW]⟩
theorem w_made {c : String} {n : Nat} (h : (c, n) ∈ slZ_l) : Cond.instantiable c n ∈ wT := by
  obtain ⟨w, hw, e⟩ := mem_sel slZ_ok h
  cases w <;> simp [slZ] at e
  obtain ⟨rfl, rfl⟩ := e
  exact List.mem_filter.mpr ⟨hw, rfl⟩
theorem beq_n {a b : Nat} (h : Nat.beq a b = true) : a = b := Nat.eq_of_beq_eq_true h
theorem mlk_mem {oc i kd mj : Nat} (h : mlk oc i = some (kd, mj)) : ∃ pl, (oc, i, kd, mj, pl) ∈ mkT := by
  obtain ⟨q, hq, e⟩ := Option.map_eq_some_iff.mp h
  have h1 := List.find?_some hq
  have h2 := List.mem_of_find?_eq_some hq
  simp only [Bool.and_eq_true] at h1
  obtain ⟨a, a2, a3, a4, a5⟩ := q
  have e1 : a = oc := beq_n h1.1
  have e2 : a2 = i := beq_n h1.2
  simp only [Prod.mk.injEq] at e
  exact ⟨a5, by rw [← e1, ← e2, ← e.1, ← e.2]; exact h2⟩
theorem flk_mem {oc i ci k : Nat} (h : flk oc i = some (ci, k)) : ∃ pl, (oc, i, ci, k, pl) ∈ flT := by
  obtain ⟨q, hq, e⟩ := Option.map_eq_some_iff.mp h
  have h1 := List.find?_some hq
  have h2 := List.mem_of_find?_eq_some hq
  simp only [Bool.and_eq_true] at h1
  obtain ⟨a, a2, a3, a4, a5⟩ := q
  have e1 : a = oc := beq_n h1.1
  have e2 : a2 = i := beq_n h1.2
  simp only [Prod.mk.injEq] at e
  exact ⟨a5, by rw [← e1, ← e2, ← e.1, ← e.2]; exact h2⟩
theorem clk_mem {oc i ci : Nat} (h : clk oc i = some ci) : ∃ pl, (oc, i, ci, pl) ∈ ckT := by
  obtain ⟨q, hq, e⟩ := Option.map_eq_some_iff.mp h
  have h1 := List.find?_some hq
  have h2 := List.mem_of_find?_eq_some hq
  simp only [Bool.and_eq_true] at h1
  obtain ⟨a, a2, a3, a4⟩ := q
  have e1 : a = oc := beq_n h1.1
  have e2 : a2 = i := beq_n h1.2
  exact ⟨a4, by rw [← e1, ← e2, ← e]; exact h2⟩
theorem ick_w {oc i : Nat} {v : Int32} (h : ick oc i = some v) : Cond.constant (ownN oc) i v ∈ wT := by
  obtain ⟨q, hq, e⟩ := Option.map_eq_some_iff.mp h
  have h1 := List.find?_some hq
  have h2 := List.mem_of_find?_eq_some hq
  simp only [Bool.and_eq_true] at h1
  refine w_con ?_
  rw [← pX]
  refine List.mem_map.mpr ⟨q, h2, ?_⟩
  rw [beq_n h1.1, beq_n h1.2, e]
theorem lck_w {oc i : Nat} {v : Int64} (h : lck oc i = some v) : Cond.constantLong (ownN oc) i v ∈ wT := by
  obtain ⟨q, hq, e⟩ := Option.map_eq_some_iff.mp h
  have h1 := List.find?_some hq
  have h2 := List.mem_of_find?_eq_some hq
  simp only [Bool.and_eq_true] at h1
  refine w_conL ?_
  rw [← pY]
  refine List.mem_map.mpr ⟨q, h2, ?_⟩
  rw [beq_n h1.1, beq_n h1.2, e]
theorem clk_w {oc i ci : Nat} (h : clk oc i = some ci) : Cond.classLink (ownN oc) i (ownN ci) ∈ wT := by
  obtain ⟨pl, hm⟩ := clk_mem h
  refine w_class ?_
  rw [← pK]
  exact List.mem_map.mpr ⟨_, hm, rfl⟩
theorem flk_w {oc i ci k : Nat} (h : flk oc i = some (ci, k)) : ∃ c : vw_C, clsW[ci]? = some c ∧ k < c.2.2 ∧ 1 ≤ ci ∧ ci < 10 ∧ Cond.fieldLink (ownN oc) i (c.2.1 k).1 (c.2.1 k).2.1 (c.2.1 k).2.2.1 ∈ wT := by
  obtain ⟨pl, hm⟩ := flk_mem h
  have h1 := List.all_eq_true.mp flB _ hm
  dsimp only at h1
  cases hc : clsW[ci]? with
  | none => rw [hc] at h1; cases h1
  | some c =>
    rw [hc] at h1
    simp only [Bool.and_eq_true, decide_eq_true_eq] at h1
    refine ⟨c, rfl, h1.1, h1.2.1, h1.2.2, w_field ?_⟩
    rw [← pF]
    refine List.mem_map.mpr ⟨_, hm, ?_⟩
    dsimp only
    rw [hc]
theorem mtN_eq {mj : Nat} {me : MEnt} (h : MT[mj]? = some me) : mtN mj = me.1 := by
  unfold mtN
  rw [h]
theorem mlk_w {oc i kd mj : Nat} (h : mlk oc i = some (kd, mj)) (hk : kd < 3) : Cond.methodLink (ownN oc) i (mtN mj) ∈ wT := by
  obtain ⟨pl, hm⟩ := mlk_mem h
  refine w_link ?_
  rw [← pM]
  refine List.mem_map.mpr ⟨_, List.mem_filter.mpr ⟨hm, ?_⟩, ?_⟩
  · rcases kd with _ | _ | _ | n
    · rfl
    · rfl
    · rfl
    · omega
  · rcases kd with _ | _ | _ | n
    · rfl
    · rfl
    · rfl
    · omega
theorem mlk_j {oc i kd mj : Nat} (h : mlk oc i = some (kd, mj)) (hk : 4 < kd) : Cond.methodLink (ownN oc) i (mkN (oc, i, kd, mj, 0)) ∈ wT := by
  obtain ⟨pl, hm⟩ := mlk_mem h
  refine w_link ?_
  rw [← pM]
  refine List.mem_map.mpr ⟨_, List.mem_filter.mpr ⟨hm, ?_⟩, rfl⟩
  rcases kd with _ | _ | _ | _ | _ | n
  · omega
  · omega
  · omega
  · omega
  · omega
  · rfl
theorem mlk_n {oc i kd mj : Nat} (h : mlk oc i = some (kd, mj)) (hk : kd = 3 ∨ kd = 4) : Cond.methodLinkNest (ownN oc) i (mtN mj) RX8 ∈ wT := by
  obtain ⟨pl, hm⟩ := mlk_mem h
  refine w_nest ?_
  rw [← pH]
  refine List.mem_map.mpr ⟨_, List.mem_filter.mpr ⟨hm, ?_⟩, ?_⟩
  · rcases hk with rfl | rfl <;> rfl
  · rcases hk with rfl | rfl <;> rfl
theorem mem_i {mj : Nat} (h : idxI.elem mj = true) : Cond.instanceMethod (mtN mj) ∈ wT := by
  obtain ⟨i, -, e⟩ := map_mem pI (List.elem_iff.mp h)
  exact w_inst (List.mem_of_getElem? e)
theorem mem_s {mj : Nat} (h : idxS.elem mj = true) : Cond.static (mtN mj) ∈ wT := by
  obtain ⟨i, -, e⟩ := map_mem pS (List.elem_iff.mp h)
  exact w_static (List.mem_of_getElem? e)
theorem mem_v {mj : Nat} (h : idxV.elem mj = true) : Cond.selects (mtN mj).cls (mtN mj) (mtN mj) ∈ wT := by
  obtain ⟨i, -, e⟩ := map_mem pV (List.elem_iff.mp h)
  exact w_sel (List.mem_of_getElem? e)
theorem mem_c {mj : Nat} {me : MEnt} (h : MT[mj]? = some me) : Cond.code me.1 me.2.1 me.2.2.1 me.2.2.2.1 ∈ wT := by
  obtain ⟨i, -, e⟩ := map_mem pC (List.mem_of_getElem? h)
  exact w_code (List.mem_of_getElem? e)
theorem mt_d {mj : Nat} {me : MEnt} (h : MT[mj]? = some me) : (∃ d, parseMethodDescriptor me.1.desc = some d ∧ d.parameters.length = pcT.getD mj 0) ∧ retT.getD mj none = me.2.2.2.1 ∧ ocT.getD mj 99 = me.2.2.2.2.1 ∧ me.1.cls = ownN me.2.2.2.2.1 ∧ me.2.2.2.2.1 < 10 := by
  have hl : mj < MT.length := (List.getElem?_eq_some_iff.mp h).1
  have l0 : MT.length = 204 := by decide +kernel
  have l1 : pcT.length = 205 := by decide +kernel
  have l2 : retT.length = 205 := by decide +kernel
  have l3 : ocT.length = 205 := by decide +kernel
  have e1 : pcT[mj]? = some (pcT.getD mj 0) := by
    rw [List.getD_eq_getElem?_getD, List.getElem?_eq_getElem (by omega)]; rfl
  have e2 : retT[mj]? = some (retT.getD mj none) := by
    rw [List.getD_eq_getElem?_getD, List.getElem?_eq_getElem (by omega)]; rfl
  have e3 : ocT[mj]? = some (ocT.getD mj 99) := by
    rw [List.getD_eq_getElem?_getD, List.getElem?_eq_getElem (by omega)]; rfl
  have hz : (MT.zip (pcT.zip (retT.zip ocT)))[mj]? = some (me, pcT.getD mj 0, retT.getD mj none, ocT.getD mj 99) := by
    rw [List.getElem?_zip_eq_some]
    refine ⟨h, ?_⟩
    rw [List.getElem?_zip_eq_some]
    refine ⟨e1, ?_⟩
    rw [List.getElem?_zip_eq_some]
    exact ⟨e2, e3⟩
  have h1 := List.all_eq_true.mp mtD _ (List.mem_of_getElem? hz)
  dsimp only at h1
  simp only [Bool.and_eq_true, decide_eq_true_eq] at h1
  obtain ⟨g1, g2, g3, g4, g5⟩ := h1
  refine ⟨?_, g2.symm, g3.symm, by rw [g3]; exact g4, by rw [g3]; exact g5⟩
  cases hd : parseMethodDescriptor me.1.desc with
  | none => rw [hd] at g1; cases g1
  | some d =>
    rw [hd] at g1
    exact ⟨d, rfl, by simpa using g1⟩
theorem mk_k {oc i kd mj : Nat} (h : mlk oc i = some (kd, mj)) : (kd = 0 → idxI.elem mj = true ∧ idxV.elem mj = true) ∧ (kd = 1 ∨ kd = 3 → idxS.elem mj = true) ∧ (kd = 2 ∨ kd = 4 → idxI.elem mj = true ∧ (mtN mj).name = "<init>" ∧ retT.getD mj none = none) := by
  obtain ⟨pl, hm⟩ := mlk_mem h
  have h1 := List.all_eq_true.mp mkK _ hm
  have h2 := List.all_eq_true.mp mkI _ hm
  refine ⟨?_, ?_, ?_⟩
  · rintro rfl
    simpa using h1
  · rintro (rfl | rfl)
    · simpa using h1
    · simpa using h1
  · rintro (rfl | rfl)
    · exact ⟨by simpa using h1, by simpa using h2⟩
    · exact ⟨by simpa using h1, by simpa using h2⟩
theorem cls_k {ci : Nat} {c : vw_C} (h : clsW[ci]? = some c) (h1 : 1 ≤ ci) : (∀ w ∈ u_ws c.1 c.2.1 c.2.2, w ∈ wT) ∧ (∀ k, k < c.2.2 → parseFieldDescriptor (c.2.1 k).2.2.1 = some (tyW ci k)) ∧ (∀ a, a < c.2.2 → ∀ b, b < c.2.2 → a ≠ b → (c.2.1 a).2.1 ≠ (c.2.1 b).2.1) := by
  have key : ∀ (C : String) (T : u_T) (N : Nat), (∀ w ∈ u_ws C T N, w ∈ lw_tbl) → ∀ w ∈ u_ws C T N, w ∈ wT := by
    intro C T N hh w hw
    refine List.mem_filter.mpr ⟨hh w hw, ?_⟩
    unfold u_ws at hw
    obtain ⟨k, -, rfl⟩ := List.mem_map.mp hw
    unfold u_lay
    split <;> rfl
  have hl : ci < 10 := (List.getElem?_eq_some_iff.mp h).1
  have hx : ci = 1 ∨ ci = 2 ∨ ci = 3 ∨ ci = 4 ∨ ci = 5 ∨ ci = 6 ∨ ci = 7 ∨ ci = 8 ∨ ci = 9 := by omega
  rcases hx with rfl | rfl | rfl | rfl | rfl | rfl | rfl | rfl | rfl
  · cases h; exact ⟨key _ _ _ iX1, tyX1_ok, nmX1⟩
  · cases h; exact ⟨key _ _ _ iX2, tyX2_ok, nmX2⟩
  · cases h; exact ⟨key _ _ _ iX3, tyX3_ok, nmX3⟩
  · cases h; exact ⟨key _ _ _ iX4, tyX4_ok, nmX4⟩
  · cases h; exact ⟨key _ _ _ iX5, tyX5_ok, nmX5⟩
  · cases h; exact ⟨key _ _ _ iX6, tyX6_ok, nmX6⟩
  · cases h; exact ⟨key _ _ _ iX7, tyX7_ok, nmX7⟩
  · cases h; exact ⟨key _ _ _ iX8, tyX8_ok, nmX8⟩
  · cases h; exact ⟨key _ _ _ iX9, tyX9_ok, nmX9⟩
