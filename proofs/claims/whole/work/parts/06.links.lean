def idxI : List Nat := [7, 8, 9, 10, 11, 12, 13, 14, 15, 16, 17, 18, 19, 20, 21, 22, 23, 24, 25, 26, 27, 28, 29, 30, 31, 32, 33, 34, 35, 36, 37, 38, 39, 40, 41, 42, 43, 44, 45, 46, 47, 48, 49, 50, 51, 52, 53, 54, 55, 56, 57, 58, 59, 60, 61, 62, 63, 64, 65, 66, 67, 68, 69, 70, 71, 72, 73, 74, 75, 76, 77, 78, 79, 80, 81, 82, 83, 84, 85, 86, 87, 88, 89, 90, 91, 92, 94, 95, 96, 99, 100, 101, 102, 103, 104, 105, 106, 107, 110, 111, 112, 113, 114, 115, 116, 117, 118, 119, 120, 121, 122, 123, 124, 125, 126, 127, 128, 129, 130, 131, 132, 133, 134, 135, 136, 137, 138, 139, 140, 141, 142, 143, 146, 147, 148, 149, 150, 151, 152, 153, 154, 155, 156, 157, 158, 159, 160, 161, 162, 163, 164, 165, 166, 167, 168, 169, 170, 171, 172, 173, 174, 175, 176, 177, 178, 179, 180, 181, 182, 183, 184, 185, 186, 188, 189, 190, 191, 192, 193, 194, 195, 196, 197, 198, 199, 200, 201, 202, 203]
def posI : List Nat := [6, 41, 42, 43, 44, 45, 70, 53, 8, 84, 86, 85, 87, 88, 5, 34, 35, 36, 37, 39, 38, 2, 12, 23, 13, 15, 17, 18, 14, 16, 20, 21, 24, 22, 19, 7, 67, 72, 68, 69, 71, 3, 32, 96, 33, 40, 28, 81, 57, 91, 92, 4, 27, 47, 48, 60, 61, 64, 30, 29, 31, 0, 9, 10, 11, 25, 46, 49, 50, 51, 54, 55, 56, 58, 62, 65, 73, 75, 77, 80, 82, 89, 93, 94, 95, 97, 52, 74, 63, 59, 83, 76, 66, 78, 79, 90, 26, 98, 123, 122, 128, 99, 100, 104, 106, 108, 109, 110, 107, 115, 112, 116, 105, 111, 114, 113, 103, 102, 118, 117, 101, 121, 119, 139, 124, 140, 138, 141, 120, 143, 142, 144, 127, 132, 131, 130, 129, 126, 134, 136, 137, 135, 133, 125, 145, 147, 146, 148, 149, 151, 150, 155, 154, 153, 152, 157, 156, 158, 164, 162, 163, 165, 166, 161, 168, 167, 159, 160, 169, 170, 171, 173, 172, 179, 177, 180, 178, 176, 175, 174, 183, 182, 184, 185, 181, 186, 187, 188, 189]
def idxS : List Nat := [0, 1, 2, 3, 4, 5, 6, 93, 97, 98, 108, 109, 144, 145, 187]
def posS : List Nat := [4, 6, 8, 5, 3, 9, 10, 1, 7, 0, 13, 14, 16, 15, 17]
def idxV : List Nat := [8, 9, 10, 11, 12, 13, 14, 16, 17, 18, 19, 20, 22, 23, 24, 25, 26, 27, 29, 30, 31, 32, 33, 34, 35, 36, 37, 38, 39, 40, 41, 43, 44, 45, 46, 47, 49, 50, 51, 52, 53, 54, 55, 56, 57, 59, 60, 61, 62, 63, 64, 65, 66, 67, 69, 70, 71, 72, 73, 74, 75, 76, 77, 78, 79, 80, 81, 82, 83, 84, 85, 86, 87, 88, 89, 90, 91, 92, 94, 95, 96, 99, 100, 101, 102, 103, 104, 105, 106, 110, 111, 112, 113, 114, 115, 116, 117, 118, 119, 120, 121, 122, 123, 124, 125, 126, 127, 128, 129, 130, 131, 132, 133, 134, 135, 136, 137, 138, 139, 140, 141, 142, 143, 146, 147, 148, 149, 150, 151, 152, 153, 154, 155, 156, 157, 158, 159, 160, 161, 162, 163, 164, 165, 166, 167, 168, 169, 170, 171, 172, 173, 174, 175, 176, 177, 178, 179, 180, 181, 182, 183, 184, 185, 186, 188, 189, 190, 191, 192, 193, 194, 195, 196, 197, 198, 199, 200, 201, 202, 203]
def posV : List Nat := [120, 20, 21, 22, 23, 139, 127, 147, 37, 36, 38, 39, 119, 14, 15, 16, 18, 17, 111, 112, 0, 2, 4, 5, 1, 3, 7, 8, 10, 9, 6, 138, 140, 28, 29, 30, 118, 154, 13, 19, 115, 145, 131, 149, 150, 114, 122, 123, 133, 134, 136, 117, 116, 12, 108, 109, 110, 113, 121, 124, 125, 126, 128, 129, 130, 132, 135, 137, 141, 142, 143, 144, 146, 148, 151, 152, 153, 155, 24, 31, 26, 25, 35, 32, 27, 33, 34, 40, 11, 60, 59, 65, 156, 157, 43, 45, 47, 48, 49, 46, 54, 51, 55, 44, 50, 53, 52, 42, 41, 57, 56, 158, 58, 159, 76, 61, 77, 75, 78, 160, 79, 161, 162, 64, 69, 68, 67, 66, 63, 71, 73, 74, 72, 70, 62, 163, 80, 164, 165, 166, 81, 167, 84, 83, 82, 168, 85, 169, 170, 91, 89, 90, 92, 93, 88, 94, 171, 86, 87, 172, 173, 95, 96, 174, 101, 99, 102, 100, 98, 97, 175, 104, 103, 105, 106, 176, 177, 178, 179, 107]
def posC : List Nat := [40, 45, 53, 44, 37, 61, 62, 6, 47, 48, 49, 51, 52, 80, 63, 8, 94, 97, 96, 98, 99, 5, 36, 38, 39, 41, 43, 42, 2, 13, 24, 14, 16, 18, 19, 15, 17, 21, 22, 25, 23, 20, 7, 77, 82, 78, 79, 81, 3, 34, 108, 35, 46, 30, 91, 67, 103, 104, 4, 29, 55, 56, 70, 71, 74, 32, 31, 33, 0, 9, 11, 12, 26, 54, 57, 58, 59, 64, 65, 66, 68, 72, 75, 83, 85, 87, 90, 92, 101, 105, 106, 107, 109, 27, 60, 84, 73, 50, 10, 69, 93, 86, 76, 88, 89, 102, 28, 110, 112, 134, 137, 136, 142, 111, 113, 117, 119, 121, 122, 123, 120, 128, 125, 129, 118, 124, 127, 126, 116, 115, 131, 130, 114, 135, 132, 155, 138, 156, 154, 157, 133, 159, 158, 160, 151, 146, 141, 147, 145, 144, 143, 140, 149, 152, 153, 150, 148, 139, 161, 163, 162, 164, 165, 167, 166, 171, 170, 169, 168, 173, 172, 174, 180, 178, 179, 181, 182, 177, 184, 183, 175, 176, 185, 186, 187, 189, 188, 196, 195, 193, 197, 194, 192, 191, 190, 200, 199, 201, 202, 198, 203, 204, 205, 206]
def mtN (i : Nat) : MethodName := match MT[i]? with
  | some e => e.1
  | none => objectInit
set_option maxRecDepth 100000 in
theorem pI : (posI.map fun i => slI_l[i]?) = (idxI.map fun i => some (mtN i)) := by rfl
set_option maxRecDepth 100000 in
theorem pS : (posS.map fun i => slS_l[i]?) = (idxS.map fun i => some (mtN i)) := by rfl
set_option maxRecDepth 100000 in
theorem pV : (posV.map fun i => slV_l[i]?) = (idxV.map fun i => some ((mtN i).cls, mtN i, mtN i)) := by rfl
set_option maxRecDepth 100000 in
theorem pC : (posC.map fun i => slC_l[i]?) = (MT.map fun e => some (e.1, e.2.1, e.2.2.1, e.2.2.2.1)) := by rfl
def mkN (q : Nat × Nat × Nat × Nat × Nat) : MethodName := match q.2.2.1 with
  | 5 => objectInit
  | 6 => arraycopyName
  | 7 => Lib.Math.min.name
  | 8 => Lib.Math.abs.name
  | _ => mtN q.2.2.2.1
set_option maxRecDepth 100000 in
theorem pM : (mkT.filter fun q => ! (Nat.beq q.2.2.1 3 || Nat.beq q.2.2.1 4)).map (fun q => (ownN q.1, q.2.1, mkN q)) = slM_l := by rfl
set_option maxRecDepth 100000 in
theorem pH : (mkT.filter fun q => (Nat.beq q.2.2.1 3 || Nat.beq q.2.2.1 4)).map (fun q => (ownN q.1, q.2.1, mkN q, RX8)) = slH_l := by rfl
set_option maxRecDepth 100000 in
theorem pF : (flT.map fun q => match clsW[q.2.2.1]? with
    | some c => (ownN q.1, q.2.1, (c.2.1 q.2.2.2.1).1, (c.2.1 q.2.2.2.1).2.1, (c.2.1 q.2.2.2.1).2.2.1)
    | none => ("", 0, "", "", "")) = slF_l := by rfl
theorem pK : (ckT.map fun q => (ownN q.1, q.2.1, ownN q.2.2.1)) = slK_l := by rfl
theorem pX : (icT.map fun q => (ownN q.1, q.2.1, q.2.2.1)) = slX_l := by rfl
theorem pY : (lcT.map fun q => (ownN q.1, q.2.1, q.2.2.1)) = slY_l := by rfl
theorem mkK : (mkT.all fun q => match q.2.2.1 with
    | 0 => idxI.elem q.2.2.2.1 && idxV.elem q.2.2.2.1
    | 1 => idxS.elem q.2.2.2.1
    | 2 => idxI.elem q.2.2.2.1
    | 3 => idxS.elem q.2.2.2.1
    | 4 => idxI.elem q.2.2.2.1
    | _ => true) = true := by decide +kernel
theorem mkI : (mkT.all fun q => match q.2.2.1 with
    | 2 => decide ((mtN q.2.2.2.1).name = "<init>") && decide (retT.getD q.2.2.2.1 none = none)
    | 4 => decide ((mtN q.2.2.2.1).name = "<init>") && decide (retT.getD q.2.2.2.1 none = none)
    | _ => true) = true := by decide +kernel
theorem flB : (flT.all fun q => match clsW[q.2.2.1]? with
    | some c => decide (q.2.2.2.1 < c.2.2) && (decide (1 ≤ q.2.2.1) && decide (q.2.2.1 < 10))
    | none => false) = true := by decide +kernel
theorem mtD : ((MT.zip (pcT.zip (retT.zip ocT))).all fun q => (match parseMethodDescriptor q.1.1.desc with
    | some d => decide (d.parameters.length = q.2.1)
    | none => false) && (decide (q.1.2.2.2.1 = q.2.2.1) && (decide (q.1.2.2.2.2.1 = q.2.2.2) && (decide (q.1.1.cls = ownN q.2.2.2) && decide (q.2.2.2 < 10))))) = true := by decide +kernel
theorem inN : ∀ c, c < 10 → slN_l.elem (ownN c) = true := by decide +kernel
theorem inN2 : slN_l.elem "java/lang/System" = true ∧ slN_l.elem "java/lang/Math" = true := by decide +kernel
def tyW (ci : Nat) : Nat → FieldType := match ci with
  | 2 => tyX2 | 3 => tyX3 | 4 => tyX4 | 5 => tyX5 | 6 => tyX6 | 7 => tyX7 | 8 => tyX8 | 9 => tyX9 | _ => tyX1
def tcode (t : FieldType) : Nat := match t with
  | .int => 0 | .boolean => 3 | .long => 1 | .object _ => 2 | .array _ => 2 | _ => 8
theorem ftK : ∀ ci, ci < 10 → ∀ c, clsW[ci]? = some c → 1 ≤ ci → ∀ k, k < c.2.2 → ftyp ci k = tcode (tyW ci k) ∧ ffin ci k = (c.2.1 k).2.2.2 ∧ (c.2.1 k).1 = c.1 := by
  intro ci hci
  have h : ∀ ci, ci < 10 → (match clsW[ci]? with
    | some c => Nat.beq ci 0 || (List.range c.2.2).all fun k => decide (ftyp ci k = tcode (tyW ci k)) && (decide (ffin ci k = (c.2.1 k).2.2.2) && decide ((c.2.1 k).1 = c.1))
    | none => true) = true := by decide +kernel
  intro c hc h1 k hk
  have h2 := h ci hci
  rw [hc] at h2
  have h0 : Nat.beq ci 0 = false := by cases ci with
    | zero => omega
    | succ n => rfl
  simp only [h0, Bool.false_or, List.all_eq_true, List.mem_range, Bool.and_eq_true, decide_eq_true_eq] at h2
  exact h2 k hk
theorem ftN : ∀ ci, ci < 10 → 1 ≤ ci → ∀ c, clsW[ci]? = some c → (ftT.getD ci []).length = c.2.2 ∧ c.1 = ownN ci := by
  have h : ∀ ci, ci < 10 → (match clsW[ci]? with
    | some c => Nat.beq ci 0 || (decide ((ftT.getD ci []).length = c.2.2) && decide (c.1 = ownN ci))
    | none => true) = true := by decide +kernel
  intro ci hci h1 c hc
  have h2 := h ci hci
  rw [hc] at h2
  have h0 : Nat.beq ci 0 = false := by cases ci with
    | zero => omega
    | succ n => rfl
  simp only [h0, Bool.false_or, Bool.and_eq_true, decide_eq_true_eq] at h2
  exact h2
theorem fkB : ∀ f, f < 266 → ((fkd f).1 < 20 → 1 ≤ (fkd f).1 ∧ (fkd f).1 < 10 ∧ (fkd f).2 = (ftT.getD (fkd f).1 []).length) ∧ (38 ≤ f → f < 225 → (fkd f).1 = 99) ∧ (fkd f).2 < 100000 := by decide +kernel

