/-! words of the tables, by their places; the classes -/
theorem zcl0 : zCl[0]? = some ("EditionGrid", cT0, 10) := rfl
theorem zi0 : ∀ w ∈ u_ws "EditionGrid" cT0 10, w ∈ zWS := fun w hw => by
  have h : (u_ws "EditionGrid" cT0 10).all (fun w => decide (w ∈ tables_1) && goodWord w) = true := by decide +kernel
  have h1 := List.all_eq_true.mp h w hw
  rw [Bool.and_eq_true, decide_eq_true_eq] at h1
  exact List.mem_filter.mpr ⟨List.mem_append_right _ h1.1, h1.2⟩
theorem zy0 : ∀ k, k < 10 → parseFieldDescriptor (cT0 k).2.2.1 = some (cY0 k) := by decide +kernel
theorem zn0 : ∀ a, a < 10 → ∀ b, b < 10 → a ≠ b → (cT0 a).2.1 ≠ (cT0 b).2.1 := by decide +kernel
theorem zcl1 : zCl[1]? = some ("EditionGrid$Breaker", cT1, 7) := rfl
theorem zi1 : ∀ w ∈ u_ws "EditionGrid$Breaker" cT1 7, w ∈ zWS := fun w hw => by
  have h : (u_ws "EditionGrid$Breaker" cT1 7).all (fun w => decide (w ∈ tables_1) && goodWord w) = true := by decide +kernel
  have h1 := List.all_eq_true.mp h w hw
  rw [Bool.and_eq_true, decide_eq_true_eq] at h1
  exact List.mem_filter.mpr ⟨List.mem_append_right _ h1.1, h1.2⟩
theorem zy1 : ∀ k, k < 7 → parseFieldDescriptor (cT1 k).2.2.1 = some (cY1 k) := by decide +kernel
theorem zn1 : ∀ a, a < 7 → ∀ b, b < 7 → a ≠ b → (cT1 a).2.1 ≠ (cT1 b).2.1 := by decide +kernel
theorem zcl2 : zCl[2]? = some ("EditionGrid$Columns", cT2, 3) := rfl
theorem zi2 : ∀ w ∈ u_ws "EditionGrid$Columns" cT2 3, w ∈ zWS := fun w hw => by
  have h : (u_ws "EditionGrid$Columns" cT2 3).all (fun w => decide (w ∈ tables_1) && goodWord w) = true := by decide +kernel
  have h1 := List.all_eq_true.mp h w hw
  rw [Bool.and_eq_true, decide_eq_true_eq] at h1
  exact List.mem_filter.mpr ⟨List.mem_append_right _ h1.1, h1.2⟩
theorem zy2 : ∀ k, k < 3 → parseFieldDescriptor (cT2 k).2.2.1 = some (cY2 k) := by decide +kernel
theorem zn2 : ∀ a, a < 3 → ∀ b, b < 3 → a ≠ b → (cT2 a).2.1 ≠ (cT2 b).2.1 := by decide +kernel
theorem zcl3 : zCl[3]? = some ("EditionGrid$Painter", cT3, 3) := rfl
theorem zi3 : ∀ w ∈ u_ws "EditionGrid$Painter" cT3 3, w ∈ zWS := fun w hw => by
  have h : (u_ws "EditionGrid$Painter" cT3 3).all (fun w => decide (w ∈ tables_1) && goodWord w) = true := by decide +kernel
  have h1 := List.all_eq_true.mp h w hw
  rw [Bool.and_eq_true, decide_eq_true_eq] at h1
  exact List.mem_filter.mpr ⟨List.mem_append_right _ h1.1, h1.2⟩
theorem zy3 : ∀ k, k < 3 → parseFieldDescriptor (cT3 k).2.2.1 = some (cY3 k) := by decide +kernel
theorem zn3 : ∀ a, a < 3 → ∀ b, b < 3 → a ≠ b → (cT3 a).2.1 ≠ (cT3 b).2.1 := by decide +kernel
theorem zcl4 : zCl[4]? = some ("EditionGrid$Part", cT4, 8) := rfl
theorem zi4 : ∀ w ∈ u_ws "EditionGrid$Part" cT4 8, w ∈ zWS := fun w hw => by
  have h : (u_ws "EditionGrid$Part" cT4 8).all (fun w => decide (w ∈ tables_1) && goodWord w) = true := by decide +kernel
  have h1 := List.all_eq_true.mp h w hw
  rw [Bool.and_eq_true, decide_eq_true_eq] at h1
  exact List.mem_filter.mpr ⟨List.mem_append_right _ h1.1, h1.2⟩
theorem zy4 : ∀ k, k < 8 → parseFieldDescriptor (cT4 k).2.2.1 = some (cY4 k) := by decide +kernel
theorem zn4 : ∀ a, a < 8 → ∀ b, b < 8 → a ≠ b → (cT4 a).2.1 ≠ (cT4 b).2.1 := by decide +kernel
theorem zcl5 : zCl[5]? = some ("EditionGrid$PatternBook", cT5, 5) := rfl
theorem zi5 : ∀ w ∈ u_ws "EditionGrid$PatternBook" cT5 5, w ∈ zWS := fun w hw => by
  have h : (u_ws "EditionGrid$PatternBook" cT5 5).all (fun w => decide (w ∈ tables_1) && goodWord w) = true := by decide +kernel
  have h1 := List.all_eq_true.mp h w hw
  rw [Bool.and_eq_true, decide_eq_true_eq] at h1
  exact List.mem_filter.mpr ⟨List.mem_append_right _ h1.1, h1.2⟩
theorem zy5 : ∀ k, k < 5 → parseFieldDescriptor (cT5 k).2.2.1 = some (cY5 k) := by decide +kernel
theorem zn5 : ∀ a, a < 5 → ∀ b, b < 5 → a ≠ b → (cT5 a).2.1 ≠ (cT5 b).2.1 := by decide +kernel
theorem zcl6 : zCl[6]? = some ("EditionGrid$Planner", cT6, 4) := rfl
theorem zi6 : ∀ w ∈ u_ws "EditionGrid$Planner" cT6 4, w ∈ zWS := fun w hw => by
  have h : (u_ws "EditionGrid$Planner" cT6 4).all (fun w => decide (w ∈ tables_1) && goodWord w) = true := by decide +kernel
  have h1 := List.all_eq_true.mp h w hw
  rw [Bool.and_eq_true, decide_eq_true_eq] at h1
  exact List.mem_filter.mpr ⟨List.mem_append_right _ h1.1, h1.2⟩
theorem zy6 : ∀ k, k < 4 → parseFieldDescriptor (cT6 k).2.2.1 = some (cY6 k) := by decide +kernel
theorem zn6 : ∀ a, a < 4 → ∀ b, b < 4 → a ≠ b → (cT6 a).2.1 ≠ (cT6 b).2.1 := by decide +kernel
theorem zcl7 : zCl[7]? = some ("EditionGrid$Reader", cT7, 6) := rfl
theorem zi7 : ∀ w ∈ u_ws "EditionGrid$Reader" cT7 6, w ∈ zWS := fun w hw => by
  have h : (u_ws "EditionGrid$Reader" cT7 6).all (fun w => decide (w ∈ tables_1) && goodWord w) = true := by decide +kernel
  have h1 := List.all_eq_true.mp h w hw
  rw [Bool.and_eq_true, decide_eq_true_eq] at h1
  exact List.mem_filter.mpr ⟨List.mem_append_right _ h1.1, h1.2⟩
theorem zy7 : ∀ k, k < 6 → parseFieldDescriptor (cT7 k).2.2.1 = some (cY7 k) := by decide +kernel
theorem zn7 : ∀ a, a < 6 → ∀ b, b < 6 → a ≠ b → (cT7 a).2.1 ≠ (cT7 b).2.1 := by decide +kernel
theorem zcl8 : zCl[8]? = some ("EditionGrid$Sheets", cT8, 4) := rfl
theorem zi8 : ∀ w ∈ u_ws "EditionGrid$Sheets" cT8 4, w ∈ zWS := fun w hw => by
  have h : (u_ws "EditionGrid$Sheets" cT8 4).all (fun w => decide (w ∈ tables_1) && goodWord w) = true := by decide +kernel
  have h1 := List.all_eq_true.mp h w hw
  rw [Bool.and_eq_true, decide_eq_true_eq] at h1
  exact List.mem_filter.mpr ⟨List.mem_append_right _ h1.1, h1.2⟩
theorem zy8 : ∀ k, k < 4 → parseFieldDescriptor (cT8 k).2.2.1 = some (cY8 k) := by decide +kernel
theorem zn8 : ∀ a, a < 4 → ∀ b, b < 4 → a ≠ b → (cT8 a).2.1 ≠ (cT8 b).2.1 := by decide +kernel
theorem zcl9 : zCl[9]? = some ("EditionGrid$Story", cT9, 18) := rfl
theorem zi9 : ∀ w ∈ u_ws "EditionGrid$Story" cT9 18, w ∈ zWS := fun w hw => by
  have h : (u_ws "EditionGrid$Story" cT9 18).all (fun w => decide (w ∈ tables_1) && goodWord w) = true := by decide +kernel
  have h1 := List.all_eq_true.mp h w hw
  rw [Bool.and_eq_true, decide_eq_true_eq] at h1
  exact List.mem_filter.mpr ⟨List.mem_append_right _ h1.1, h1.2⟩
theorem zy9 : ∀ k, k < 18 → parseFieldDescriptor (cT9 k).2.2.1 = some (cY9 k) := by decide +kernel
theorem zn9 : ∀ a, a < 18 → ∀ b, b < 18 → a ≠ b → (cT9 a).2.1 ≠ (cT9 b).2.1 := by decide +kernel
theorem zcl10 : zCl[10]? = some ("EditionGridModel", cT10, 46) := rfl
theorem zi10 : ∀ w ∈ u_ws "EditionGridModel" cT10 46, w ∈ zWS := fun w hw => by
  have h : (u_ws "EditionGridModel" cT10 46).all (fun w => decide (w ∈ tables_1) && goodWord w) = true := by decide +kernel
  have h1 := List.all_eq_true.mp h w hw
  rw [Bool.and_eq_true, decide_eq_true_eq] at h1
  exact List.mem_filter.mpr ⟨List.mem_append_right _ h1.1, h1.2⟩
theorem zy10 : ∀ k, k < 46 → parseFieldDescriptor (cT10 k).2.2.1 = some (cY10 k) := by decide +kernel
theorem zn10 : ∀ a, a < 46 → ∀ b, b < 46 → a ≠ b → (cT10 a).2.1 ≠ (cT10 b).2.1 := by decide +kernel
set_option maxRecDepth 100000 in
theorem w0 : (Jvm.Cond.selects "EditionGrid$PatternBook" ({ cls := "EditionGrid$PatternBook", name := "placeOf", desc := "(J)I" } : Jvm.MethodName) ({ cls := "EditionGrid$PatternBook", name := "placeOf", desc := "(J)I" } : Jvm.MethodName)) ∈ zWS := zme 0 rfl rfl
set_option maxRecDepth 100000 in
theorem w1 : (Jvm.Cond.selects "EditionGrid$PatternBook" ({ cls := "EditionGrid$PatternBook", name := "raiseValues", desc := "(JI)V" } : Jvm.MethodName) ({ cls := "EditionGrid$PatternBook", name := "raiseValues", desc := "(JI)V" } : Jvm.MethodName)) ∈ zWS := zme 1 rfl rfl
set_option maxRecDepth 100000 in
theorem w2 : (Jvm.Cond.selects "EditionGrid$Reader" ({ cls := "EditionGrid$Reader", name := "readStory", desc := "(LEditionGrid$Story;)Z" } : Jvm.MethodName) ({ cls := "EditionGrid$Reader", name := "readStory", desc := "(LEditionGrid$Story;)Z" } : Jvm.MethodName)) ∈ zWS := zme 2 rfl rfl
set_option maxRecDepth 100000 in
theorem w3 : (Jvm.Cond.selects "EditionGrid$Reader" ({ cls := "EditionGrid$Reader", name := "pass", desc := "(I)Z" } : Jvm.MethodName) ({ cls := "EditionGrid$Reader", name := "pass", desc := "(I)Z" } : Jvm.MethodName)) ∈ zWS := zme 3 rfl rfl
set_option maxRecDepth 100000 in
theorem w4 : (Jvm.Cond.selects "EditionGrid$Reader" ({ cls := "EditionGrid$Reader", name := "next", desc := "()I" } : Jvm.MethodName) ({ cls := "EditionGrid$Reader", name := "next", desc := "()I" } : Jvm.MethodName)) ∈ zWS := zme 4 rfl rfl
set_option maxRecDepth 100000 in
theorem w5 : (Jvm.Cond.selects "EditionGrid$Reader" ({ cls := "EditionGrid$Reader", name := "readWords", desc := "(I)Z" } : Jvm.MethodName) ({ cls := "EditionGrid$Reader", name := "readWords", desc := "(I)Z" } : Jvm.MethodName)) ∈ zWS := zme 5 rfl rfl
set_option maxRecDepth 100000 in
theorem w6 : (Jvm.Cond.selects "EditionGrid$Reader" ({ cls := "EditionGrid$Reader", name := "readWord", desc := "()Z" } : Jvm.MethodName) ({ cls := "EditionGrid$Reader", name := "readWord", desc := "()Z" } : Jvm.MethodName)) ∈ zWS := zme 6 rfl rfl
set_option maxRecDepth 100000 in
theorem w7 : (Jvm.Cond.selects "EditionGrid$Reader" ({ cls := "EditionGrid$Reader", name := "readPart", desc := "(LEditionGrid$Story;)Z" } : Jvm.MethodName) ({ cls := "EditionGrid$Reader", name := "readPart", desc := "(LEditionGrid$Story;)Z" } : Jvm.MethodName)) ∈ zWS := zme 7 rfl rfl
set_option maxRecDepth 100000 in
theorem w8 : (Jvm.Cond.selects "EditionGrid$Reader" ({ cls := "EditionGrid$Reader", name := "readFigure", desc := "(LEditionGrid$Story;)Z" } : Jvm.MethodName) ({ cls := "EditionGrid$Reader", name := "readFigure", desc := "(LEditionGrid$Story;)Z" } : Jvm.MethodName)) ∈ zWS := zme 8 rfl rfl
set_option maxRecDepth 100000 in
theorem w9 : (Jvm.Cond.selects "EditionGrid$Breaker" ({ cls := "EditionGrid$Breaker", name := "measureCharacters", desc := "([CI[I)V" } : Jvm.MethodName) ({ cls := "EditionGrid$Breaker", name := "measureCharacters", desc := "([CI[I)V" } : Jvm.MethodName)) ∈ zWS := zme 9 rfl rfl
set_option maxRecDepth 100000 in
theorem w10 : (Jvm.Cond.selects "EditionGrid$Breaker" ({ cls := "EditionGrid$Breaker", name := "markEnds", desc := "([CI)V" } : Jvm.MethodName) ({ cls := "EditionGrid$Breaker", name := "markEnds", desc := "([CI)V" } : Jvm.MethodName)) ∈ zWS := zme 10 rfl rfl
set_option maxRecDepth 100000 in
theorem w11 : (Jvm.Cond.selects "EditionGrid$Breaker" ({ cls := "EditionGrid$Breaker", name := "markWord", desc := "(III)V" } : Jvm.MethodName) ({ cls := "EditionGrid$Breaker", name := "markWord", desc := "(III)V" } : Jvm.MethodName)) ∈ zWS := zme 11 rfl rfl
set_option maxRecDepth 100000 in
theorem w12 : (Jvm.Cond.selects "EditionGrid$Breaker" ({ cls := "EditionGrid$Breaker", name := "leastCost", desc := "()I" } : Jvm.MethodName) ({ cls := "EditionGrid$Breaker", name := "leastCost", desc := "()I" } : Jvm.MethodName)) ∈ zWS := zme 12 rfl rfl
set_option maxRecDepth 100000 in
theorem w13 : (Jvm.Cond.selects "EditionGrid$Breaker" ({ cls := "EditionGrid$Breaker", name := "chooseLine", desc := "(I)V" } : Jvm.MethodName) ({ cls := "EditionGrid$Breaker", name := "chooseLine", desc := "(I)V" } : Jvm.MethodName)) ∈ zWS := zme 13 rfl rfl
set_option maxRecDepth 100000 in
theorem w14 : (Jvm.Cond.selects "EditionGrid$Breaker" ({ cls := "EditionGrid$Breaker", name := "costWith", desc := "(II)I" } : Jvm.MethodName) ({ cls := "EditionGrid$Breaker", name := "costWith", desc := "(II)I" } : Jvm.MethodName)) ∈ zWS := zme 14 rfl rfl
set_option maxRecDepth 100000 in
theorem w15 : (Jvm.Cond.selects "EditionGrid$Breaker" ({ cls := "EditionGrid$Breaker", name := "nextBegin", desc := "(I)I" } : Jvm.MethodName) ({ cls := "EditionGrid$Breaker", name := "nextBegin", desc := "(I)I" } : Jvm.MethodName)) ∈ zWS := zme 15 rfl rfl
set_option maxRecDepth 100000 in
theorem w16 : (Jvm.Cond.selects "EditionGrid$Breaker" ({ cls := "EditionGrid$Breaker", name := "addLines", desc := "(LEditionGrid$Story;I)V" } : Jvm.MethodName) ({ cls := "EditionGrid$Breaker", name := "addLines", desc := "(LEditionGrid$Story;I)V" } : Jvm.MethodName)) ∈ zWS := zme 16 rfl rfl
set_option maxRecDepth 100000 in
theorem w17 : (Jvm.Cond.selects "EditionGrid$Planner" ({ cls := "EditionGrid$Planner", name := "placeWhole", desc := "(LEditionGrid$Story;II)Z" } : Jvm.MethodName) ({ cls := "EditionGrid$Planner", name := "placeWhole", desc := "(LEditionGrid$Story;II)Z" } : Jvm.MethodName)) ∈ zWS := zme 17 rfl rfl
set_option maxRecDepth 100000 in
theorem w18 : (Jvm.Cond.selects "EditionGrid$Planner" ({ cls := "EditionGrid$Planner", name := "leastHeight", desc := "(LEditionGrid$Story;II)I" } : Jvm.MethodName) ({ cls := "EditionGrid$Planner", name := "leastHeight", desc := "(LEditionGrid$Story;II)I" } : Jvm.MethodName)) ∈ zWS := zme 18 rfl rfl
set_option maxRecDepth 100000 in
theorem w19 : (Jvm.Cond.selects "EditionGrid$Sheets" ({ cls := "EditionGrid$Sheets", name := "takenIn", desc := "(III)I" } : Jvm.MethodName) ({ cls := "EditionGrid$Sheets", name := "takenIn", desc := "(III)I" } : Jvm.MethodName)) ∈ zWS := zme 19 rfl rfl
set_option maxRecDepth 100000 in
theorem w20 : (Jvm.Cond.selects "EditionGrid$Planner" ({ cls := "EditionGrid$Planner", name := "putFirstPart", desc := "(LEditionGrid$Story;I)V" } : Jvm.MethodName) ({ cls := "EditionGrid$Planner", name := "putFirstPart", desc := "(LEditionGrid$Story;I)V" } : Jvm.MethodName)) ∈ zWS := zme 20 rfl rfl
set_option maxRecDepth 100000 in
theorem w21 : (Jvm.Cond.selects "EditionGrid$Planner" ({ cls := "EditionGrid$Planner", name := "fillPart", desc := "(LEditionGrid$Story;LEditionGrid$Part;I)V" } : Jvm.MethodName) ({ cls := "EditionGrid$Planner", name := "fillPart", desc := "(LEditionGrid$Story;LEditionGrid$Part;I)V" } : Jvm.MethodName)) ∈ zWS := zme 21 rfl rfl
set_option maxRecDepth 100000 in
theorem w22 : (Jvm.Cond.selects "EditionGrid$Columns" ({ cls := "EditionGrid$Columns", name := "mostFor", desc := "(II)I" } : Jvm.MethodName) ({ cls := "EditionGrid$Columns", name := "mostFor", desc := "(II)I" } : Jvm.MethodName)) ∈ zWS := zme 22 rfl rfl
set_option maxRecDepth 100000 in
theorem w23 : (Jvm.Cond.selects "EditionGrid$Planner" ({ cls := "EditionGrid$Planner", name := "putNothing", desc := "(LEditionGrid$Part;)V" } : Jvm.MethodName) ({ cls := "EditionGrid$Planner", name := "putNothing", desc := "(LEditionGrid$Part;)V" } : Jvm.MethodName)) ∈ zWS := zme 23 rfl rfl
set_option maxRecDepth 100000 in
theorem w24 : (Jvm.Cond.selects "EditionGrid$Planner" ({ cls := "EditionGrid$Planner", name := "putLines", desc := "(LEditionGrid$Part;III)V" } : Jvm.MethodName) ({ cls := "EditionGrid$Planner", name := "putLines", desc := "(LEditionGrid$Part;III)V" } : Jvm.MethodName)) ∈ zWS := zme 24 rfl rfl
set_option maxRecDepth 100000 in
theorem w25 : (Jvm.Cond.selects "EditionGrid$Planner" ({ cls := "EditionGrid$Planner", name := "placeJump", desc := "(LEditionGrid$Story;)Z" } : Jvm.MethodName) ({ cls := "EditionGrid$Planner", name := "placeJump", desc := "(LEditionGrid$Story;)Z" } : Jvm.MethodName)) ∈ zWS := zme 25 rfl rfl
set_option maxRecDepth 100000 in
theorem w26 : (Jvm.Cond.selects "EditionGrid$Planner" ({ cls := "EditionGrid$Planner", name := "jumpFrom", desc := "(LEditionGrid$Story;IIII)Z" } : Jvm.MethodName) ({ cls := "EditionGrid$Planner", name := "jumpFrom", desc := "(LEditionGrid$Story;IIII)Z" } : Jvm.MethodName)) ∈ zWS := zme 26 rfl rfl
set_option maxRecDepth 100000 in
theorem w27 : (Jvm.Cond.selects "EditionGrid$Planner" ({ cls := "EditionGrid$Planner", name := "greatestSplit", desc := "(LEditionGrid$Story;)I" } : Jvm.MethodName) ({ cls := "EditionGrid$Planner", name := "greatestSplit", desc := "(LEditionGrid$Story;)I" } : Jvm.MethodName)) ∈ zWS := zme 27 rfl rfl
set_option maxRecDepth 100000 in
theorem w28 : (Jvm.Cond.selects "EditionGrid$Planner" ({ cls := "EditionGrid$Planner", name := "putSecondPart", desc := "(LEditionGrid$Story;)V" } : Jvm.MethodName) ({ cls := "EditionGrid$Planner", name := "putSecondPart", desc := "(LEditionGrid$Story;)V" } : Jvm.MethodName)) ∈ zWS := zme 28 rfl rfl
set_option maxRecDepth 100000 in
theorem w29 : (Jvm.Cond.selects "EditionGrid" ({ cls := "EditionGrid", name := "isPlanned", desc := "(I)Z" } : Jvm.MethodName) ({ cls := "EditionGrid", name := "isPlanned", desc := "(I)Z" } : Jvm.MethodName)) ∈ zWS := zme 29 rfl rfl
set_option maxRecDepth 100000 in
theorem w30 : (Jvm.Cond.selects "EditionGrid$Painter" ({ cls := "EditionGrid$Painter", name := "rowUnit", desc := "(IIIII)I" } : Jvm.MethodName) ({ cls := "EditionGrid$Painter", name := "rowUnit", desc := "(IIIII)I" } : Jvm.MethodName)) ∈ zWS := zme 30 rfl rfl
set_option maxRecDepth 100000 in
theorem w31 : (Jvm.Cond.selects "EditionGrid$Painter" ({ cls := "EditionGrid$Painter", name := "widthOf", desc := "(C)I" } : Jvm.MethodName) ({ cls := "EditionGrid$Painter", name := "widthOf", desc := "(C)I" } : Jvm.MethodName)) ∈ zWS := zme 31 rfl rfl
set_option maxRecDepth 100000 in
theorem w32 : (Jvm.Cond.selects "EditionGrid$Painter" ({ cls := "EditionGrid$Painter", name := "lineUnit", desc := "(LEditionGrid$Story;II)I" } : Jvm.MethodName) ({ cls := "EditionGrid$Painter", name := "lineUnit", desc := "(LEditionGrid$Story;II)I" } : Jvm.MethodName)) ∈ zWS := zme 32 rfl rfl
set_option maxRecDepth 100000 in
theorem w33 : (Jvm.Cond.selects "EditionGrid$Painter" ({ cls := "EditionGrid$Painter", name := "unitsOf", desc := "(II)I" } : Jvm.MethodName) ({ cls := "EditionGrid$Painter", name := "unitsOf", desc := "(II)I" } : Jvm.MethodName)) ∈ zWS := zme 33 rfl rfl
set_option maxRecDepth 100000 in
theorem w34 : (Jvm.Cond.selects "EditionGrid$Painter" ({ cls := "EditionGrid$Painter", name := "gapsOf", desc := "(II)I" } : Jvm.MethodName) ({ cls := "EditionGrid$Painter", name := "gapsOf", desc := "(II)I" } : Jvm.MethodName)) ∈ zWS := zme 34 rfl rfl
set_option maxRecDepth 100000 in
theorem w35 : (Jvm.Cond.selects "EditionGridModel" ({ cls := "EditionGridModel", name := "isPattern", desc := "(IJI)Z" } : Jvm.MethodName) ({ cls := "EditionGridModel", name := "isPattern", desc := "(IJI)Z" } : Jvm.MethodName)) ∈ zWS := zme 35 rfl rfl
set_option maxRecDepth 100000 in
theorem w36 : (Jvm.Cond.selects "EditionGridModel" ({ cls := "EditionGridModel", name := "value", desc := "(I)V" } : Jvm.MethodName) ({ cls := "EditionGridModel", name := "value", desc := "(I)V" } : Jvm.MethodName)) ∈ zWS := zme 36 rfl rfl
set_option maxRecDepth 100000 in
theorem w37 : (Jvm.Cond.selects "EditionGridModel" ({ cls := "EditionGridModel", name := "stands", desc := "(III)Z" } : Jvm.MethodName) ({ cls := "EditionGridModel", name := "stands", desc := "(III)Z" } : Jvm.MethodName)) ∈ zWS := zme 37 rfl rfl
set_option maxRecDepth 100000 in
theorem w38 : (Jvm.Cond.selects "EditionGridModel" ({ cls := "EditionGridModel", name := "isCut", desc := "(II)Z" } : Jvm.MethodName) ({ cls := "EditionGridModel", name := "isCut", desc := "(II)Z" } : Jvm.MethodName)) ∈ zWS := zme 38 rfl rfl
set_option maxRecDepth 100000 in
theorem w39 : (Jvm.Cond.selects "EditionGridModel" ({ cls := "EditionGridModel", name := "free", desc := "()V" } : Jvm.MethodName) ({ cls := "EditionGridModel", name := "free", desc := "()V" } : Jvm.MethodName)) ∈ zWS := zme 39 rfl rfl
set_option maxRecDepth 100000 in
theorem w40 : (Jvm.Cond.selects "EditionGridModel" ({ cls := "EditionGridModel", name := "readStory", desc := "()V" } : Jvm.MethodName) ({ cls := "EditionGridModel", name := "readStory", desc := "()V" } : Jvm.MethodName)) ∈ zWS := zme 40 rfl rfl
set_option maxRecDepth 100000 in
theorem w41 : (Jvm.Cond.selects "EditionGridModel" ({ cls := "EditionGridModel", name := "here", desc := "()I" } : Jvm.MethodName) ({ cls := "EditionGridModel", name := "here", desc := "()I" } : Jvm.MethodName)) ∈ zWS := zme 41 rfl rfl
set_option maxRecDepth 100000 in
theorem w42 : (Jvm.Cond.selects "EditionGridModel" ({ cls := "EditionGridModel", name := "fail", desc := "()V" } : Jvm.MethodName) ({ cls := "EditionGridModel", name := "fail", desc := "()V" } : Jvm.MethodName)) ∈ zWS := zme 42 rfl rfl
set_option maxRecDepth 100000 in
theorem w43 : (Jvm.Cond.selects "EditionGridModel" ({ cls := "EditionGridModel", name := "take", desc := "(II)I" } : Jvm.MethodName) ({ cls := "EditionGridModel", name := "take", desc := "(II)I" } : Jvm.MethodName)) ∈ zWS := zme 43 rfl rfl
set_option maxRecDepth 100000 in
theorem w44 : (Jvm.Cond.selects "EditionGridModel" ({ cls := "EditionGridModel", name := "readWords", desc := "(II)V" } : Jvm.MethodName) ({ cls := "EditionGridModel", name := "readWords", desc := "(II)V" } : Jvm.MethodName)) ∈ zWS := zme 44 rfl rfl
set_option maxRecDepth 100000 in
theorem w45 : (Jvm.Cond.selects "EditionGridModel" ({ cls := "EditionGridModel", name := "readWord", desc := "(I)V" } : Jvm.MethodName) ({ cls := "EditionGridModel", name := "readWord", desc := "(I)V" } : Jvm.MethodName)) ∈ zWS := zme 45 rfl rfl
set_option maxRecDepth 100000 in
theorem w46 : (Jvm.Cond.selects "EditionGridModel" ({ cls := "EditionGridModel", name := "readPart", desc := "(I)V" } : Jvm.MethodName) ({ cls := "EditionGridModel", name := "readPart", desc := "(I)V" } : Jvm.MethodName)) ∈ zWS := zme 46 rfl rfl
set_option maxRecDepth 100000 in
theorem w47 : (Jvm.Cond.selects "EditionGridModel" ({ cls := "EditionGridModel", name := "readFigure", desc := "(I)V" } : Jvm.MethodName) ({ cls := "EditionGridModel", name := "readFigure", desc := "(I)V" } : Jvm.MethodName)) ∈ zWS := zme 47 rfl rfl
set_option maxRecDepth 100000 in
theorem w48 : (Jvm.Cond.selects "EditionGridModel" ({ cls := "EditionGridModel", name := "layLines", desc := "(I)V" } : Jvm.MethodName) ({ cls := "EditionGridModel", name := "layLines", desc := "(I)V" } : Jvm.MethodName)) ∈ zWS := zme 48 rfl rfl
set_option maxRecDepth 100000 in
theorem w49 : (Jvm.Cond.selects "EditionGridModel" ({ cls := "EditionGridModel", name := "breakUp", desc := "(I)V" } : Jvm.MethodName) ({ cls := "EditionGridModel", name := "breakUp", desc := "(I)V" } : Jvm.MethodName)) ∈ zWS := zme 49 rfl rfl
set_option maxRecDepth 100000 in
theorem w50 : (Jvm.Cond.selects "EditionGridModel" ({ cls := "EditionGridModel", name := "markEnds", desc := "(I)V" } : Jvm.MethodName) ({ cls := "EditionGridModel", name := "markEnds", desc := "(I)V" } : Jvm.MethodName)) ∈ zWS := zme 50 rfl rfl
set_option maxRecDepth 100000 in
theorem w51 : (Jvm.Cond.selects "EditionGridModel" ({ cls := "EditionGridModel", name := "costOf", desc := "(III)I" } : Jvm.MethodName) ({ cls := "EditionGridModel", name := "costOf", desc := "(III)I" } : Jvm.MethodName)) ∈ zWS := zme 51 rfl rfl
set_option maxRecDepth 100000 in
theorem w52 : (Jvm.Cond.selects "EditionGridModel" ({ cls := "EditionGridModel", name := "placeStory", desc := "(I)V" } : Jvm.MethodName) ({ cls := "EditionGridModel", name := "placeStory", desc := "(I)V" } : Jvm.MethodName)) ∈ zWS := zme 52 rfl rfl
set_option maxRecDepth 100000 in
theorem w53 : (Jvm.Cond.selects "EditionGridModel" ({ cls := "EditionGridModel", name := "findWhole", desc := "(IIIIII)Z" } : Jvm.MethodName) ({ cls := "EditionGridModel", name := "findWhole", desc := "(IIIIII)Z" } : Jvm.MethodName)) ∈ zWS := zme 53 rfl rfl
set_option maxRecDepth 100000 in
theorem w54 : (Jvm.Cond.selects "EditionGridModel" ({ cls := "EditionGridModel", name := "setRooms", desc := "(IIIII)Z" } : Jvm.MethodName) ({ cls := "EditionGridModel", name := "setRooms", desc := "(IIIII)Z" } : Jvm.MethodName)) ∈ zWS := zme 54 rfl rfl
set_option maxRecDepth 100000 in
theorem w55 : (Jvm.Cond.selects "EditionGridModel" ({ cls := "EditionGridModel", name := "fills", desc := "(IIII)Z" } : Jvm.MethodName) ({ cls := "EditionGridModel", name := "fills", desc := "(IIII)Z" } : Jvm.MethodName)) ∈ zWS := zme 55 rfl rfl
set_option maxRecDepth 100000 in
theorem w56 : (Jvm.Cond.selects "EditionGridModel" ({ cls := "EditionGridModel", name := "isBad", desc := "(II)Z" } : Jvm.MethodName) ({ cls := "EditionGridModel", name := "isBad", desc := "(II)Z" } : Jvm.MethodName)) ∈ zWS := zme 56 rfl rfl
set_option maxRecDepth 100000 in
theorem w57 : (Jvm.Cond.selects "EditionGridModel" ({ cls := "EditionGridModel", name := "findOn", desc := "(III)Z" } : Jvm.MethodName) ({ cls := "EditionGridModel", name := "findOn", desc := "(III)Z" } : Jvm.MethodName)) ∈ zWS := zme 57 rfl rfl
set_option maxRecDepth 100000 in
theorem w58 : (Jvm.Cond.selects "EditionGridModel" ({ cls := "EditionGridModel", name := "isFree", desc := "(IIIII)Z" } : Jvm.MethodName) ({ cls := "EditionGridModel", name := "isFree", desc := "(IIIII)Z" } : Jvm.MethodName)) ∈ zWS := zme 58 rfl rfl
set_option maxRecDepth 100000 in
theorem w59 : (Jvm.Cond.selects "EditionGridModel" ({ cls := "EditionGridModel", name := "takePlace", desc := "(IIIIIII)V" } : Jvm.MethodName) ({ cls := "EditionGridModel", name := "takePlace", desc := "(IIIIIII)V" } : Jvm.MethodName)) ∈ zWS := zme 59 rfl rfl
set_option maxRecDepth 100000 in
theorem w60 : (Jvm.Cond.selects "EditionGridModel" ({ cls := "EditionGridModel", name := "tell", desc := "(IIIII)V" } : Jvm.MethodName) ({ cls := "EditionGridModel", name := "tell", desc := "(IIIII)V" } : Jvm.MethodName)) ∈ zWS := zme 60 rfl rfl
set_option maxRecDepth 100000 in
theorem w61 : (Jvm.Cond.selects "EditionGridModel" ({ cls := "EditionGridModel", name := "findJump", desc := "(I)Z" } : Jvm.MethodName) ({ cls := "EditionGridModel", name := "findJump", desc := "(I)Z" } : Jvm.MethodName)) ∈ zWS := zme 61 rfl rfl
set_option maxRecDepth 100000 in
theorem w62 : (Jvm.Cond.selects "EditionGridModel" ({ cls := "EditionGridModel", name := "jumps", desc := "(IIIII)Z" } : Jvm.MethodName) ({ cls := "EditionGridModel", name := "jumps", desc := "(IIIII)Z" } : Jvm.MethodName)) ∈ zWS := zme 62 rfl rfl
set_option maxRecDepth 100000 in
theorem w63 : (Jvm.Cond.selects "EditionGridModel" ({ cls := "EditionGridModel", name := "freeRows", desc := "(IIII)I" } : Jvm.MethodName) ({ cls := "EditionGridModel", name := "freeRows", desc := "(IIII)I" } : Jvm.MethodName)) ∈ zWS := zme 63 rfl rfl
set_option maxRecDepth 100000 in
theorem w64 : (Jvm.Cond.selects "EditionGridModel" ({ cls := "EditionGridModel", name := "firstLines", desc := "(III)I" } : Jvm.MethodName) ({ cls := "EditionGridModel", name := "firstLines", desc := "(III)I" } : Jvm.MethodName)) ∈ zWS := zme 64 rfl rfl
set_option maxRecDepth 100000 in
theorem w65 : (Jvm.Cond.selects "EditionGridModel" ({ cls := "EditionGridModel", name := "isPlanned", desc := "(I)Z" } : Jvm.MethodName) ({ cls := "EditionGridModel", name := "isPlanned", desc := "(I)Z" } : Jvm.MethodName)) ∈ zWS := zme 65 rfl rfl
set_option maxRecDepth 100000 in
theorem w66 : (Jvm.Cond.selects "EditionGridModel" ({ cls := "EditionGridModel", name := "isCell", desc := "(III)Z" } : Jvm.MethodName) ({ cls := "EditionGridModel", name := "isCell", desc := "(III)Z" } : Jvm.MethodName)) ∈ zWS := zme 66 rfl rfl
set_option maxRecDepth 100000 in
theorem w67 : (Jvm.Cond.selects "EditionGridModel" ({ cls := "EditionGridModel", name := "inkOf", desc := "(IIIIII)I" } : Jvm.MethodName) ({ cls := "EditionGridModel", name := "inkOf", desc := "(IIIIII)I" } : Jvm.MethodName)) ∈ zWS := zme 67 rfl rfl
set_option maxRecDepth 100000 in
theorem w68 : (Jvm.Cond.selects "EditionGridModel" ({ cls := "EditionGridModel", name := "isWordEnd", desc := "(II)Z" } : Jvm.MethodName) ({ cls := "EditionGridModel", name := "isWordEnd", desc := "(II)Z" } : Jvm.MethodName)) ∈ zWS := zme 68 rfl rfl
set_option maxRecDepth 100000 in
theorem w69 : (Jvm.Cond.selects "EditionGridModel" ({ cls := "EditionGridModel", name := "lineInk", desc := "(II)I" } : Jvm.MethodName) ({ cls := "EditionGridModel", name := "lineInk", desc := "(II)I" } : Jvm.MethodName)) ∈ zWS := zme 69 rfl rfl
set_option maxRecDepth 100000 in
theorem w70 : (Jvm.Cond.selects "EditionGridModel" ({ cls := "EditionGridModel", name := "spaces", desc := "(III)I" } : Jvm.MethodName) ({ cls := "EditionGridModel", name := "spaces", desc := "(III)I" } : Jvm.MethodName)) ∈ zWS := zme 70 rfl rfl
set_option maxRecDepth 100000 in
theorem w71 : (Jvm.Cond.selects "EditionGridModel" ({ cls := "EditionGridModel", name := "widthOf", desc := "(III)I" } : Jvm.MethodName) ({ cls := "EditionGridModel", name := "widthOf", desc := "(III)I" } : Jvm.MethodName)) ∈ zWS := zme 71 rfl rfl
set_option maxRecDepth 100000 in
theorem w72 : (Jvm.Cond.initialized "EditionGridLaw") ∈ zWS := zme 72 rfl rfl
set_option maxRecDepth 100000 in
theorem w73 : (Jvm.Cond.initialized "EditionGrid") ∈ zWS := zme 73 rfl rfl
set_option maxRecDepth 100000 in
theorem w74 : (Jvm.Cond.initialized "EditionGrid$Reader") ∈ zWS := zme 74 rfl rfl
set_option maxRecDepth 100000 in
theorem w75 : (Jvm.Cond.initialized "EditionGrid$Story") ∈ zWS := zme 75 rfl rfl
set_option maxRecDepth 100000 in
theorem w76 : (Jvm.Cond.initialized "EditionGrid$Part") ∈ zWS := zme 76 rfl rfl
set_option maxRecDepth 100000 in
theorem w77 : (Jvm.Cond.initialized "java/lang/Math") ∈ zWS := zme 77 rfl rfl
set_option maxRecDepth 100000 in
theorem w78 : (Jvm.Cond.initialized "EditionGrid$Breaker") ∈ zWS := zme 78 rfl rfl
set_option maxRecDepth 100000 in
theorem w79 : (Jvm.Cond.initialized "EditionGrid$PatternBook") ∈ zWS := zme 79 rfl rfl
set_option maxRecDepth 100000 in
theorem w80 : (Jvm.Cond.initialized "EditionGrid$Planner") ∈ zWS := zme 80 rfl rfl
set_option maxRecDepth 100000 in
theorem w81 : (Jvm.Cond.initialized "EditionGrid$Columns") ∈ zWS := zme 81 rfl rfl
set_option maxRecDepth 100000 in
theorem w82 : (Jvm.Cond.initialized "EditionGrid$Sheets") ∈ zWS := zme 82 rfl rfl
set_option maxRecDepth 100000 in
theorem w83 : (Jvm.Cond.initialized "EditionGrid$Painter") ∈ zWS := zme 83 rfl rfl
set_option maxRecDepth 100000 in
theorem w84 : (Jvm.Cond.initialized "java/util/Arrays") ∈ zWS := zme 84 rfl rfl
set_option maxRecDepth 100000 in
theorem w85 : (Jvm.Cond.initialized "EditionGridModel") ∈ zWS := zme 85 rfl rfl
set_option maxRecDepth 100000 in
theorem w86 : (Jvm.Cond.initialized "java/lang/System") ∈ zWS := zme 86 rfl rfl
set_option maxRecDepth 100000 in
theorem w87 : (Jvm.Cond.classLink "EditionGridLaw" (7 : Nat) "EditionGrid") ∈ zWS := zme 87 rfl rfl
set_option maxRecDepth 100000 in
theorem w88 : (Jvm.Cond.instantiable "EditionGrid" (10 : Nat)) ∈ zWS := zme 88 rfl rfl
set_option maxRecDepth 100000 in
theorem w89 : (Jvm.Cond.methodLink "EditionGridLaw" (15 : Nat) ({ cls := "EditionGrid", name := "<init>", desc := "(III)V" } : Jvm.MethodName)) ∈ zWS := zme 89 rfl rfl
set_option maxRecDepth 100000 in
theorem w90 : (Jvm.Cond.instanceMethod ({ cls := "EditionGrid", name := "<init>", desc := "(III)V" } : Jvm.MethodName)) ∈ zWS := zme 90 rfl rfl
set_option maxRecDepth 100000 in
theorem w91 : (Jvm.Cond.code ({ cls := "EditionGrid", name := "<init>", desc := "(III)V" } : Jvm.MethodName) prog_1_method_1_code (4 : Nat) (Option.none : Option Jvm.ClassFile.FieldType)) ∈ zWS := zme 91 rfl rfl
set_option maxRecDepth 100000 in
theorem w92 : (Jvm.Cond.methodLink "EditionGrid" (1 : Nat) ({ cls := "java/lang/Object", name := "<init>", desc := "()V" } : Jvm.MethodName)) ∈ zWS := zme 92 rfl rfl
set_option maxRecDepth 100000 in
theorem w93 : (Jvm.Cond.instanceMethod ({ cls := "java/lang/Object", name := "<init>", desc := "()V" } : Jvm.MethodName)) ∈ zWS := zme 93 rfl rfl
set_option maxRecDepth 100000 in
theorem w94 : (Jvm.Cond.code ({ cls := "java/lang/Object", name := "<init>", desc := "()V" } : Jvm.MethodName) object_method_1_code (1 : Nat) (Option.none : Option Jvm.ClassFile.FieldType)) ∈ zWS := zme 94 rfl rfl
set_option maxRecDepth 100000 in
theorem w95 : (Jvm.Cond.classLink "EditionGrid" (20 : Nat) "EditionGrid$Reader") ∈ zWS := zme 95 rfl rfl
set_option maxRecDepth 100000 in
theorem w96 : (Jvm.Cond.instantiable "EditionGrid$Reader" (6 : Nat)) ∈ zWS := zme 96 rfl rfl
set_option maxRecDepth 100000 in
theorem w97 : (Jvm.Cond.methodLink "EditionGrid" (22 : Nat) ({ cls := "EditionGrid$Reader", name := "<init>", desc := "()V" } : Jvm.MethodName)) ∈ zWS := zme 97 rfl rfl
set_option maxRecDepth 100000 in
theorem w98 : (Jvm.Cond.instanceMethod ({ cls := "EditionGrid$Reader", name := "<init>", desc := "()V" } : Jvm.MethodName)) ∈ zWS := zme 98 rfl rfl
set_option maxRecDepth 100000 in
theorem w99 : (Jvm.Cond.code ({ cls := "EditionGrid$Reader", name := "<init>", desc := "()V" } : Jvm.MethodName) prog_8_method_1_code (2 : Nat) (Option.none : Option Jvm.ClassFile.FieldType)) ∈ zWS := zme 99 rfl rfl
set_option maxRecDepth 100000 in
theorem w100 : (Jvm.Cond.methodLink "EditionGrid$Reader" (3 : Nat) ({ cls := "java/lang/Object", name := "<init>", desc := "()V" } : Jvm.MethodName)) ∈ zWS := zme 100 rfl rfl
set_option maxRecDepth 100000 in
theorem w101 : (Jvm.Cond.classLink "EditionGrid$Reader" (15 : Nat) "EditionGrid$Story") ∈ zWS := zme 101 rfl rfl
set_option maxRecDepth 100000 in
theorem w103 : (Jvm.Cond.instantiable "EditionGrid$Story" (18 : Nat)) ∈ zWS := zme 103 rfl rfl
set_option maxRecDepth 100000 in
theorem w104 : (Jvm.Cond.methodLink "EditionGrid$Reader" (25 : Nat) ({ cls := "EditionGrid$Story", name := "<init>", desc := "(I)V" } : Jvm.MethodName)) ∈ zWS := zme 104 rfl rfl
set_option maxRecDepth 100000 in
theorem w105 : (Jvm.Cond.instanceMethod ({ cls := "EditionGrid$Story", name := "<init>", desc := "(I)V" } : Jvm.MethodName)) ∈ zWS := zme 105 rfl rfl
set_option maxRecDepth 100000 in
theorem w106 : (Jvm.Cond.code ({ cls := "EditionGrid$Story", name := "<init>", desc := "(I)V" } : Jvm.MethodName) prog_10_method_1_code (2 : Nat) (Option.none : Option Jvm.ClassFile.FieldType)) ∈ zWS := zme 106 rfl rfl
set_option maxRecDepth 100000 in
theorem w107 : (Jvm.Cond.methodLink "EditionGrid$Story" (3 : Nat) ({ cls := "java/lang/Object", name := "<init>", desc := "()V" } : Jvm.MethodName)) ∈ zWS := zme 107 rfl rfl
set_option maxRecDepth 100000 in
theorem w108 : (Jvm.Cond.classLink "EditionGrid$Story" (30 : Nat) "EditionGrid$Part") ∈ zWS := zme 108 rfl rfl
set_option maxRecDepth 100000 in
theorem w110 : (Jvm.Cond.instantiable "EditionGrid$Part" (8 : Nat)) ∈ zWS := zme 110 rfl rfl
set_option maxRecDepth 100000 in
theorem w112 : (Jvm.Cond.instanceMethod ({ cls := "EditionGrid$Part", name := "<init>", desc := "()V" } : Jvm.MethodName)) ∈ zWS := zme 112 rfl rfl
set_option maxRecDepth 100000 in
theorem w113 : (Jvm.Cond.code ({ cls := "EditionGrid$Part", name := "<init>", desc := "()V" } : Jvm.MethodName) prog_5_method_1_code (1 : Nat) (Option.none : Option Jvm.ClassFile.FieldType)) ∈ zWS := zme 113 rfl rfl
set_option maxRecDepth 100000 in
theorem w114 : (Jvm.Cond.methodLink "EditionGrid$Part" (3 : Nat) ({ cls := "java/lang/Object", name := "<init>", desc := "()V" } : Jvm.MethodName)) ∈ zWS := zme 114 rfl rfl
set_option maxRecDepth 100000 in
theorem w115 : (Jvm.Cond.fieldLink "EditionGrid$Part" (9 : Nat) "EditionGrid$Part" "inColumn" "[I") ∈ zWS := zme 115 rfl rfl
set_option maxRecDepth 100000 in
theorem w117 : (Jvm.Cond.fieldLink "EditionGrid$Part" (15 : Nat) "EditionGrid$Part" "page" "I") ∈ zWS := zme 117 rfl rfl
set_option maxRecDepth 100000 in
theorem w120 : (Jvm.Cond.fieldLink "EditionGrid$Part" (19 : Nat) "EditionGrid$Part" "x" "I") ∈ zWS := zme 120 rfl rfl
set_option maxRecDepth 100000 in
theorem w123 : (Jvm.Cond.fieldLink "EditionGrid$Part" (22 : Nat) "EditionGrid$Part" "y" "I") ∈ zWS := zme 123 rfl rfl
set_option maxRecDepth 100000 in
theorem w125 : (Jvm.Cond.fieldLink "EditionGrid$Part" (25 : Nat) "EditionGrid$Part" "k" "I") ∈ zWS := zme 125 rfl rfl
set_option maxRecDepth 100000 in
theorem w127 : (Jvm.Cond.fieldLink "EditionGrid$Part" (28 : Nat) "EditionGrid$Part" "height" "I") ∈ zWS := zme 127 rfl rfl
set_option maxRecDepth 100000 in
theorem w129 : (Jvm.Cond.fieldLink "EditionGrid$Part" (31 : Nat) "EditionGrid$Part" "firstLine" "I") ∈ zWS := zme 129 rfl rfl
set_option maxRecDepth 100000 in
theorem w131 : (Jvm.Cond.fieldLink "EditionGrid$Part" (34 : Nat) "EditionGrid$Part" "lineCount" "I") ∈ zWS := zme 131 rfl rfl
set_option maxRecDepth 100000 in
theorem w150 : (Jvm.Cond.arrayClass Jvm.ClassFile.FieldType.int) ∈ zWS := zme 150 rfl rfl
set_option maxRecDepth 100000 in
theorem w151 : (Jvm.Cond.arrayClass Jvm.ClassFile.FieldType.char) ∈ zWS := zme 151 rfl rfl
set_option maxRecDepth 100000 in
theorem w152 : (Jvm.Cond.fieldLink "EditionGrid$Story" (37 : Nat) "EditionGrid$Story" "number" "I") ∈ zWS := zme 152 rfl rfl
set_option maxRecDepth 100000 in
theorem w154 : (Jvm.Cond.fieldLink "EditionGrid$Story" (9 : Nat) "EditionGrid$Story" "paragraphFrom" "[I") ∈ zWS := zme 154 rfl rfl
set_option maxRecDepth 100000 in
theorem w157 : (Jvm.Cond.fieldLink "EditionGrid$Story" (15 : Nat) "EditionGrid$Story" "paragraphTo" "[I") ∈ zWS := zme 157 rfl rfl
set_option maxRecDepth 100000 in
theorem w160 : (Jvm.Cond.fieldLink "EditionGrid$Story" (18 : Nat) "EditionGrid$Story" "costs" "[I") ∈ zWS := zme 160 rfl rfl
set_option maxRecDepth 100000 in
theorem w163 : (Jvm.Cond.fieldLink "EditionGrid$Story" (21 : Nat) "EditionGrid$Story" "lineFrom" "[I") ∈ zWS := zme 163 rfl rfl
set_option maxRecDepth 100000 in
theorem w165 : (Jvm.Cond.fieldLink "EditionGrid$Story" (24 : Nat) "EditionGrid$Story" "lineTo" "[I") ∈ zWS := zme 165 rfl rfl
set_option maxRecDepth 100000 in
theorem w167 : (Jvm.Cond.fieldLink "EditionGrid$Story" (27 : Nat) "EditionGrid$Story" "lineEnd" "[I") ∈ zWS := zme 167 rfl rfl
set_option maxRecDepth 100000 in
theorem w169 : (Jvm.Cond.fieldLink "EditionGrid$Story" (33 : Nat) "EditionGrid$Story" "parts" "[LEditionGrid$Part;") ∈ zWS := zme 169 rfl rfl
set_option maxRecDepth 100000 in
theorem w179 : (Jvm.Cond.fieldLink "EditionGrid$Story" (41 : Nat) "EditionGrid$Story" "paragraphCount" "I") ∈ zWS := zme 179 rfl rfl
set_option maxRecDepth 100000 in
theorem w184 : (Jvm.Cond.fieldLink "EditionGrid$Story" (44 : Nat) "EditionGrid$Story" "figureColumns" "I") ∈ zWS := zme 184 rfl rfl
set_option maxRecDepth 100000 in
theorem w187 : (Jvm.Cond.fieldLink "EditionGrid$Story" (47 : Nat) "EditionGrid$Story" "figureRows" "I") ∈ zWS := zme 187 rfl rfl
set_option maxRecDepth 100000 in
theorem w193 : (Jvm.Cond.fieldLink "EditionGrid$Story" (50 : Nat) "EditionGrid$Story" "reason" "I") ∈ zWS := zme 193 rfl rfl
set_option maxRecDepth 100000 in
theorem w196 : (Jvm.Cond.fieldLink "EditionGrid$Story" (53 : Nat) "EditionGrid$Story" "lineCount" "I") ∈ zWS := zme 196 rfl rfl
set_option maxRecDepth 100000 in
theorem w200 : (Jvm.Cond.fieldLink "EditionGrid$Story" (56 : Nat) "EditionGrid$Story" "partCount" "I") ∈ zWS := zme 200 rfl rfl
set_option maxRecDepth 100000 in
theorem w202 : (Jvm.Cond.fieldLink "EditionGrid$Story" (59 : Nat) "EditionGrid$Story" "badBreaks" "J") ∈ zWS := zme 202 rfl rfl
set_option maxRecDepth 100000 in
theorem w240 : (Jvm.Cond.fieldLink "EditionGrid$Reader" (9 : Nat) "EditionGrid$Reader" "kept" "[C") ∈ zWS := zme 240 rfl rfl
set_option maxRecDepth 100000 in
theorem w242 : (Jvm.Cond.fieldLink "EditionGrid$Reader" (17 : Nat) "EditionGrid$Reader" "stories" "[LEditionGrid$Story;") ∈ zWS := zme 242 rfl rfl
set_option maxRecDepth 100000 in
theorem w244 : (Jvm.Cond.fieldLink "EditionGrid$Reader" (34 : Nat) "EditionGrid$Reader" "keptLength" "I") ∈ zWS := zme 244 rfl rfl
set_option maxRecDepth 100000 in
theorem w245 : (Jvm.Cond.fieldLink "EditionGrid$Reader" (43 : Nat) "EditionGrid$Reader" "at" "I") ∈ zWS := zme 245 rfl rfl
set_option maxRecDepth 100000 in
theorem w246 : (Jvm.Cond.fieldLink "EditionGrid$Reader" (46 : Nat) "EditionGrid$Reader" "storyCount" "I") ∈ zWS := zme 246 rfl rfl
set_option maxRecDepth 100000 in
theorem w248 : (Jvm.Cond.fieldLink "EditionGrid$Reader" (21 : Nat) "EditionGrid$Reader" "faultPlace" "I") ∈ zWS := zme 248 rfl rfl
set_option maxRecDepth 100000 in
theorem w263 : (Jvm.Cond.methodLink "EditionGrid" (27 : Nat) ({ cls := "EditionGrid", name := "within", desc := "(III)I" } : Jvm.MethodName)) ∈ zWS := zme 263 rfl rfl
set_option maxRecDepth 100000 in
theorem w264 : (Jvm.Cond.static ({ cls := "EditionGrid", name := "within", desc := "(III)I" } : Jvm.MethodName)) ∈ zWS := zme 264 rfl rfl
set_option maxRecDepth 100000 in
theorem w265 : (Jvm.Cond.code ({ cls := "EditionGrid", name := "within", desc := "(III)I" } : Jvm.MethodName) prog_1_method_17_code (3 : Nat) (Option.some Jvm.ClassFile.FieldType.int)) ∈ zWS := zme 265 rfl rfl
set_option maxRecDepth 100000 in
theorem w266 : (Jvm.Cond.methodLink "EditionGrid" (177 : Nat) ({ cls := "java/lang/Math", name := "min", desc := "(II)I" } : Jvm.MethodName)) ∈ zWS := zme 266 rfl rfl
set_option maxRecDepth 100000 in
theorem w267 : (Jvm.Cond.static ({ cls := "java/lang/Math", name := "min", desc := "(II)I" } : Jvm.MethodName)) ∈ zWS := zme 267 rfl rfl
set_option maxRecDepth 100000 in
theorem w268 : (Jvm.Cond.code ({ cls := "java/lang/Math", name := "min", desc := "(II)I" } : Jvm.MethodName) prog_13_method_69_code (2 : Nat) (Option.some Jvm.ClassFile.FieldType.int)) ∈ zWS := zme 268 rfl rfl
set_option maxRecDepth 100000 in
theorem w269 : (Jvm.Cond.methodLink "EditionGrid" (183 : Nat) ({ cls := "java/lang/Math", name := "max", desc := "(II)I" } : Jvm.MethodName)) ∈ zWS := zme 269 rfl rfl
set_option maxRecDepth 100000 in
theorem w270 : (Jvm.Cond.static ({ cls := "java/lang/Math", name := "max", desc := "(II)I" } : Jvm.MethodName)) ∈ zWS := zme 270 rfl rfl
set_option maxRecDepth 100000 in
theorem w271 : (Jvm.Cond.code ({ cls := "java/lang/Math", name := "max", desc := "(II)I" } : Jvm.MethodName) prog_13_method_65_code (2 : Nat) (Option.some Jvm.ClassFile.FieldType.int)) ∈ zWS := zme 271 rfl rfl
set_option maxRecDepth 100000 in
theorem w272 : (Jvm.Cond.classLink "EditionGrid" (35 : Nat) "EditionGrid$Breaker") ∈ zWS := zme 272 rfl rfl
set_option maxRecDepth 100000 in
theorem w273 : (Jvm.Cond.instantiable "EditionGrid$Breaker" (7 : Nat)) ∈ zWS := zme 273 rfl rfl
set_option maxRecDepth 100000 in
theorem w274 : (Jvm.Cond.methodLink "EditionGrid" (37 : Nat) ({ cls := "EditionGrid$Breaker", name := "<init>", desc := "(I)V" } : Jvm.MethodName)) ∈ zWS := zme 274 rfl rfl
set_option maxRecDepth 100000 in
theorem w275 : (Jvm.Cond.instanceMethod ({ cls := "EditionGrid$Breaker", name := "<init>", desc := "(I)V" } : Jvm.MethodName)) ∈ zWS := zme 275 rfl rfl
set_option maxRecDepth 100000 in
theorem w276 : (Jvm.Cond.code ({ cls := "EditionGrid$Breaker", name := "<init>", desc := "(I)V" } : Jvm.MethodName) prog_2_method_1_code (2 : Nat) (Option.none : Option Jvm.ClassFile.FieldType)) ∈ zWS := zme 276 rfl rfl
set_option maxRecDepth 100000 in
theorem w277 : (Jvm.Cond.methodLink "EditionGrid$Breaker" (3 : Nat) ({ cls := "java/lang/Object", name := "<init>", desc := "()V" } : Jvm.MethodName)) ∈ zWS := zme 277 rfl rfl
set_option maxRecDepth 100000 in
theorem w278 : (Jvm.Cond.classLink "EditionGrid$Breaker" (9 : Nat) "EditionGrid$PatternBook") ∈ zWS := zme 278 rfl rfl
set_option maxRecDepth 100000 in
theorem w279 : (Jvm.Cond.instantiable "EditionGrid$PatternBook" (5 : Nat)) ∈ zWS := zme 279 rfl rfl
set_option maxRecDepth 100000 in
theorem w281 : (Jvm.Cond.instanceMethod ({ cls := "EditionGrid$PatternBook", name := "<init>", desc := "()V" } : Jvm.MethodName)) ∈ zWS := zme 281 rfl rfl
set_option maxRecDepth 100000 in
theorem w282 : (Jvm.Cond.code ({ cls := "EditionGrid$PatternBook", name := "<init>", desc := "()V" } : Jvm.MethodName) prog_6_method_1_code (1 : Nat) (Option.none : Option Jvm.ClassFile.FieldType)) ∈ zWS := zme 282 rfl rfl
set_option maxRecDepth 100000 in
theorem w283 : (Jvm.Cond.methodLink "EditionGrid$PatternBook" (3 : Nat) ({ cls := "java/lang/Object", name := "<init>", desc := "()V" } : Jvm.MethodName)) ∈ zWS := zme 283 rfl rfl
set_option maxRecDepth 100000 in
theorem w284 : (Jvm.Cond.fieldLink "EditionGrid$PatternBook" (11 : Nat) "EditionGrid$PatternBook" "signRows" "[J") ∈ zWS := zme 284 rfl rfl
set_option maxRecDepth 100000 in
theorem w285 : (Jvm.Cond.fieldLink "EditionGrid$PatternBook" (15 : Nat) "EditionGrid$PatternBook" "valueRows" "[J") ∈ zWS := zme 285 rfl rfl
set_option maxRecDepth 100000 in
theorem w286 : (Jvm.Cond.fieldLink "EditionGrid$PatternBook" (18 : Nat) "EditionGrid$PatternBook" "signCounts" "[I") ∈ zWS := zme 286 rfl rfl
set_option maxRecDepth 100000 in
theorem w287 : (Jvm.Cond.fieldLink "EditionGrid$PatternBook" (22 : Nat) "EditionGrid$PatternBook" "greatest" "[I") ∈ zWS := zme 287 rfl rfl
set_option maxRecDepth 100000 in
theorem w288 : (Jvm.Cond.fieldLink "EditionGrid$PatternBook" (40 : Nat) "EditionGrid$PatternBook" "size" "I") ∈ zWS := zme 288 rfl rfl
set_option maxRecDepth 100000 in
theorem w300 : (Jvm.Cond.arrayClass Jvm.ClassFile.FieldType.long) ∈ zWS := zme 300 rfl rfl
set_option maxRecDepth 100000 in
theorem w301 : (Jvm.Cond.fieldLink "EditionGrid$Breaker" (12 : Nat) "EditionGrid$Breaker" "book" "LEditionGrid$PatternBook;") ∈ zWS := zme 301 rfl rfl
set_option maxRecDepth 100000 in
theorem w303 : (Jvm.Cond.fieldLink "EditionGrid$Breaker" (31 : Nat) "EditionGrid$Breaker" "measure" "I") ∈ zWS := zme 303 rfl rfl
set_option maxRecDepth 100000 in
theorem w304 : (Jvm.Cond.fieldLink "EditionGrid$Breaker" (18 : Nat) "EditionGrid$Breaker" "unitsBefore" "[I") ∈ zWS := zme 304 rfl rfl
set_option maxRecDepth 100000 in
theorem w305 : (Jvm.Cond.fieldLink "EditionGrid$Breaker" (22 : Nat) "EditionGrid$Breaker" "endAt" "[I") ∈ zWS := zme 305 rfl rfl
set_option maxRecDepth 100000 in
theorem w306 : (Jvm.Cond.fieldLink "EditionGrid$Breaker" (25 : Nat) "EditionGrid$Breaker" "leastFrom" "[I") ∈ zWS := zme 306 rfl rfl
set_option maxRecDepth 100000 in
theorem w307 : (Jvm.Cond.fieldLink "EditionGrid$Breaker" (28 : Nat) "EditionGrid$Breaker" "lineToFrom" "[I") ∈ zWS := zme 307 rfl rfl
set_option maxRecDepth 100000 in
theorem w308 : (Jvm.Cond.fieldLink "EditionGrid$Breaker" (55 : Nat) "EditionGrid$Breaker" "length" "I") ∈ zWS := zme 308 rfl rfl
set_option maxRecDepth 100000 in
theorem w324 : (Jvm.Cond.classLink "EditionGrid" (44 : Nat) "EditionGrid$Planner") ∈ zWS := zme 324 rfl rfl
set_option maxRecDepth 100000 in
theorem w325 : (Jvm.Cond.instantiable "EditionGrid$Planner" (4 : Nat)) ∈ zWS := zme 325 rfl rfl
set_option maxRecDepth 100000 in
theorem w326 : (Jvm.Cond.methodLink "EditionGrid" (46 : Nat) ({ cls := "EditionGrid$Planner", name := "<init>", desc := "(II)V" } : Jvm.MethodName)) ∈ zWS := zme 326 rfl rfl
set_option maxRecDepth 100000 in
theorem w327 : (Jvm.Cond.instanceMethod ({ cls := "EditionGrid$Planner", name := "<init>", desc := "(II)V" } : Jvm.MethodName)) ∈ zWS := zme 327 rfl rfl
set_option maxRecDepth 100000 in
theorem w328 : (Jvm.Cond.code ({ cls := "EditionGrid$Planner", name := "<init>", desc := "(II)V" } : Jvm.MethodName) prog_7_method_1_code (3 : Nat) (Option.none : Option Jvm.ClassFile.FieldType)) ∈ zWS := zme 328 rfl rfl
set_option maxRecDepth 100000 in
theorem w329 : (Jvm.Cond.methodLink "EditionGrid$Planner" (3 : Nat) ({ cls := "java/lang/Object", name := "<init>", desc := "()V" } : Jvm.MethodName)) ∈ zWS := zme 329 rfl rfl
set_option maxRecDepth 100000 in
theorem w330 : (Jvm.Cond.classLink "EditionGrid$Planner" (9 : Nat) "EditionGrid$Columns") ∈ zWS := zme 330 rfl rfl
set_option maxRecDepth 100000 in
theorem w331 : (Jvm.Cond.instantiable "EditionGrid$Columns" (3 : Nat)) ∈ zWS := zme 331 rfl rfl
set_option maxRecDepth 100000 in
theorem w333 : (Jvm.Cond.instanceMethod ({ cls := "EditionGrid$Columns", name := "<init>", desc := "()V" } : Jvm.MethodName)) ∈ zWS := zme 333 rfl rfl
set_option maxRecDepth 100000 in
theorem w334 : (Jvm.Cond.code ({ cls := "EditionGrid$Columns", name := "<init>", desc := "()V" } : Jvm.MethodName) prog_3_method_1_code (1 : Nat) (Option.none : Option Jvm.ClassFile.FieldType)) ∈ zWS := zme 334 rfl rfl
set_option maxRecDepth 100000 in
theorem w335 : (Jvm.Cond.methodLink "EditionGrid$Columns" (3 : Nat) ({ cls := "java/lang/Object", name := "<init>", desc := "()V" } : Jvm.MethodName)) ∈ zWS := zme 335 rfl rfl
set_option maxRecDepth 100000 in
theorem w336 : (Jvm.Cond.fieldLink "EditionGrid$Columns" (9 : Nat) "EditionGrid$Columns" "rooms" "[I") ∈ zWS := zme 336 rfl rfl
set_option maxRecDepth 100000 in
theorem w337 : (Jvm.Cond.fieldLink "EditionGrid$Columns" (15 : Nat) "EditionGrid$Columns" "fillableFrom" "[J") ∈ zWS := zme 337 rfl rfl
set_option maxRecDepth 100000 in
theorem w338 : (Jvm.Cond.fieldLink "EditionGrid$Columns" (25 : Nat) "EditionGrid$Columns" "count" "I") ∈ zWS := zme 338 rfl rfl
set_option maxRecDepth 100000 in
theorem w346 : (Jvm.Cond.classLink "EditionGrid$Planner" (22 : Nat) "EditionGrid$Sheets") ∈ zWS := zme 346 rfl rfl
set_option maxRecDepth 100000 in
theorem w347 : (Jvm.Cond.instantiable "EditionGrid$Sheets" (4 : Nat)) ∈ zWS := zme 347 rfl rfl
set_option maxRecDepth 100000 in
theorem w348 : (Jvm.Cond.methodLink "EditionGrid$Planner" (24 : Nat) ({ cls := "EditionGrid$Sheets", name := "<init>", desc := "(II)V" } : Jvm.MethodName)) ∈ zWS := zme 348 rfl rfl
set_option maxRecDepth 100000 in
theorem w349 : (Jvm.Cond.instanceMethod ({ cls := "EditionGrid$Sheets", name := "<init>", desc := "(II)V" } : Jvm.MethodName)) ∈ zWS := zme 349 rfl rfl
set_option maxRecDepth 100000 in
theorem w350 : (Jvm.Cond.code ({ cls := "EditionGrid$Sheets", name := "<init>", desc := "(II)V" } : Jvm.MethodName) prog_9_method_1_code (3 : Nat) (Option.none : Option Jvm.ClassFile.FieldType)) ∈ zWS := zme 350 rfl rfl
set_option maxRecDepth 100000 in
theorem w351 : (Jvm.Cond.methodLink "EditionGrid$Sheets" (3 : Nat) ({ cls := "java/lang/Object", name := "<init>", desc := "()V" } : Jvm.MethodName)) ∈ zWS := zme 351 rfl rfl
set_option maxRecDepth 100000 in
theorem w352 : (Jvm.Cond.fieldLink "EditionGrid$Sheets" (18 : Nat) "EditionGrid$Sheets" "columns" "I") ∈ zWS := zme 352 rfl rfl
set_option maxRecDepth 100000 in
theorem w354 : (Jvm.Cond.fieldLink "EditionGrid$Sheets" (22 : Nat) "EditionGrid$Sheets" "rows" "I") ∈ zWS := zme 354 rfl rfl
set_option maxRecDepth 100000 in
theorem w356 : (Jvm.Cond.fieldLink "EditionGrid$Sheets" (9 : Nat) "EditionGrid$Sheets" "codes" "[I") ∈ zWS := zme 356 rfl rfl
set_option maxRecDepth 100000 in
theorem w357 : (Jvm.Cond.fieldLink "EditionGrid$Sheets" (15 : Nat) "EditionGrid$Sheets" "takenRows" "[I") ∈ zWS := zme 357 rfl rfl
set_option maxRecDepth 100000 in
theorem w367 : (Jvm.Cond.fieldLink "EditionGrid$Planner" (27 : Nat) "EditionGrid$Planner" "sheets" "LEditionGrid$Sheets;") ∈ zWS := zme 367 rfl rfl
set_option maxRecDepth 100000 in
theorem w369 : (Jvm.Cond.fieldLink "EditionGrid$Planner" (12 : Nat) "EditionGrid$Planner" "columns" "LEditionGrid$Columns;") ∈ zWS := zme 369 rfl rfl
set_option maxRecDepth 100000 in
theorem w370 : (Jvm.Cond.fieldLink "EditionGrid$Planner" (18 : Nat) "EditionGrid$Planner" "heights" "[I") ∈ zWS := zme 370 rfl rfl
set_option maxRecDepth 100000 in
theorem w371 : (Jvm.Cond.fieldLink "EditionGrid$Planner" (97 : Nat) "EditionGrid$Planner" "hopelessRests" "J") ∈ zWS := zme 371 rfl rfl
set_option maxRecDepth 100000 in
theorem w381 : (Jvm.Cond.classLink "EditionGrid" (53 : Nat) "EditionGrid$Painter") ∈ zWS := zme 381 rfl rfl
set_option maxRecDepth 100000 in
theorem w382 : (Jvm.Cond.instantiable "EditionGrid$Painter" (3 : Nat)) ∈ zWS := zme 382 rfl rfl
set_option maxRecDepth 100000 in
theorem w383 : (Jvm.Cond.methodLink "EditionGrid" (55 : Nat) ({ cls := "EditionGrid$Painter", name := "<init>", desc := "(I)V" } : Jvm.MethodName)) ∈ zWS := zme 383 rfl rfl
set_option maxRecDepth 100000 in
theorem w384 : (Jvm.Cond.instanceMethod ({ cls := "EditionGrid$Painter", name := "<init>", desc := "(I)V" } : Jvm.MethodName)) ∈ zWS := zme 384 rfl rfl
set_option maxRecDepth 100000 in
theorem w385 : (Jvm.Cond.code ({ cls := "EditionGrid$Painter", name := "<init>", desc := "(I)V" } : Jvm.MethodName) prog_4_method_1_code (2 : Nat) (Option.none : Option Jvm.ClassFile.FieldType)) ∈ zWS := zme 385 rfl rfl
set_option maxRecDepth 100000 in
theorem w386 : (Jvm.Cond.methodLink "EditionGrid$Painter" (3 : Nat) ({ cls := "java/lang/Object", name := "<init>", desc := "()V" } : Jvm.MethodName)) ∈ zWS := zme 386 rfl rfl
set_option maxRecDepth 100000 in
theorem w387 : (Jvm.Cond.fieldLink "EditionGrid$Painter" (19 : Nat) "EditionGrid$Painter" "measure" "I") ∈ zWS := zme 387 rfl rfl
set_option maxRecDepth 100000 in
theorem w388 : (Jvm.Cond.fieldLink "EditionGrid$Painter" (9 : Nat) "EditionGrid$Painter" "text" "[C") ∈ zWS := zme 388 rfl rfl
set_option maxRecDepth 100000 in
theorem w389 : (Jvm.Cond.fieldLink "EditionGrid$Painter" (15 : Nat) "EditionGrid$Painter" "widths" "[I") ∈ zWS := zme 389 rfl rfl
set_option maxRecDepth 100000 in
theorem w397 : (Jvm.Cond.methodLink "EditionGrid" (60 : Nat) ({ cls := "java/util/Arrays", name := "fill", desc := "([II)V" } : Jvm.MethodName)) ∈ zWS := zme 397 rfl rfl
set_option maxRecDepth 100000 in
theorem w398 : (Jvm.Cond.static ({ cls := "java/util/Arrays", name := "fill", desc := "([II)V" } : Jvm.MethodName)) ∈ zWS := zme 398 rfl rfl
set_option maxRecDepth 100000 in
theorem w399 : (Jvm.Cond.code ({ cls := "java/util/Arrays", name := "fill", desc := "([II)V" } : Jvm.MethodName) prog_15_method_103_code (4 : Nat) (Option.none : Option Jvm.ClassFile.FieldType)) ∈ zWS := zme 399 rfl rfl
set_option maxRecDepth 100000 in
theorem w400 : (Jvm.Cond.fieldLink "EditionGrid" (31 : Nat) "EditionGrid" "measure" "I") ∈ zWS := zme 400 rfl rfl
set_option maxRecDepth 100000 in
theorem w401 : (Jvm.Cond.fieldLink "EditionGrid" (9 : Nat) "EditionGrid" "widths" "[I") ∈ zWS := zme 401 rfl rfl
set_option maxRecDepth 100000 in
theorem w402 : (Jvm.Cond.fieldLink "EditionGrid" (13 : Nat) "EditionGrid" "text" "[C") ∈ zWS := zme 402 rfl rfl
set_option maxRecDepth 100000 in
theorem w403 : (Jvm.Cond.fieldLink "EditionGrid" (17 : Nat) "EditionGrid" "word" "[C") ∈ zWS := zme 403 rfl rfl
set_option maxRecDepth 100000 in
theorem w404 : (Jvm.Cond.fieldLink "EditionGrid" (23 : Nat) "EditionGrid" "reader" "LEditionGrid$Reader;") ∈ zWS := zme 404 rfl rfl
set_option maxRecDepth 100000 in
theorem w405 : (Jvm.Cond.fieldLink "EditionGrid" (40 : Nat) "EditionGrid" "breaker" "LEditionGrid$Breaker;") ∈ zWS := zme 405 rfl rfl
set_option maxRecDepth 100000 in
theorem w406 : (Jvm.Cond.fieldLink "EditionGrid" (49 : Nat) "EditionGrid" "planner" "LEditionGrid$Planner;") ∈ zWS := zme 406 rfl rfl
set_option maxRecDepth 100000 in
theorem w407 : (Jvm.Cond.fieldLink "EditionGrid" (56 : Nat) "EditionGrid" "painter" "LEditionGrid$Painter;") ∈ zWS := zme 407 rfl rfl
set_option maxRecDepth 100000 in
theorem w408 : (Jvm.Cond.fieldLink "EditionGrid" (88 : Nat) "EditionGrid" "textLength" "I") ∈ zWS := zme 408 rfl rfl
set_option maxRecDepth 100000 in
theorem w409 : (Jvm.Cond.fieldLink "EditionGrid" (100 : Nat) "EditionGrid" "planned" "Z") ∈ zWS := zme 409 rfl rfl
set_option maxRecDepth 100000 in
theorem w431 : (Jvm.Cond.methodLink "EditionGridLaw" (21 : Nat) ({ cls := "EditionGrid", name := "metric", desc := "(CI)Z" } : Jvm.MethodName)) ∈ zWS := zme 431 rfl rfl
set_option maxRecDepth 100000 in
theorem w432 : (Jvm.Cond.instanceMethod ({ cls := "EditionGrid", name := "metric", desc := "(CI)Z" } : Jvm.MethodName)) ∈ zWS := zme 432 rfl rfl
set_option maxRecDepth 100000 in
theorem w433 : (Jvm.Cond.selects "EditionGrid" ({ cls := "EditionGrid", name := "metric", desc := "(CI)Z" } : Jvm.MethodName) ({ cls := "EditionGrid", name := "metric", desc := "(CI)Z" } : Jvm.MethodName)) ∈ zWS := zme 433 rfl rfl
set_option maxRecDepth 100000 in
theorem w434 : (Jvm.Cond.code ({ cls := "EditionGrid", name := "metric", desc := "(CI)Z" } : Jvm.MethodName) prog_1_method_2_code (3 : Nat) (Option.some Jvm.ClassFile.FieldType.boolean)) ∈ zWS := zme 434 rfl rfl
set_option maxRecDepth 100000 in
theorem w435 : (Jvm.Cond.methodLink "EditionGrid" (66 : Nat) ({ cls := "EditionGrid", name := "isLetter", desc := "(I)Z" } : Jvm.MethodName)) ∈ zWS := zme 435 rfl rfl
set_option maxRecDepth 100000 in
theorem w436 : (Jvm.Cond.static ({ cls := "EditionGrid", name := "isLetter", desc := "(I)Z" } : Jvm.MethodName)) ∈ zWS := zme 436 rfl rfl
set_option maxRecDepth 100000 in
theorem w437 : (Jvm.Cond.code ({ cls := "EditionGrid", name := "isLetter", desc := "(I)Z" } : Jvm.MethodName) prog_1_method_18_code (1 : Nat) (Option.some Jvm.ClassFile.FieldType.boolean)) ∈ zWS := zme 437 rfl rfl
set_option maxRecDepth 100000 in
theorem w438 : (Jvm.Cond.methodLink "EditionGridLaw" (28 : Nat) ({ cls := "EditionGrid", name := "pattern", desc := "(JIJ)I" } : Jvm.MethodName)) ∈ zWS := zme 438 rfl rfl
set_option maxRecDepth 100000 in
theorem w439 : (Jvm.Cond.instanceMethod ({ cls := "EditionGrid", name := "pattern", desc := "(JIJ)I" } : Jvm.MethodName)) ∈ zWS := zme 439 rfl rfl
set_option maxRecDepth 100000 in
theorem w440 : (Jvm.Cond.selects "EditionGrid" ({ cls := "EditionGrid", name := "pattern", desc := "(JIJ)I" } : Jvm.MethodName) ({ cls := "EditionGrid", name := "pattern", desc := "(JIJ)I" } : Jvm.MethodName)) ∈ zWS := zme 440 rfl rfl
set_option maxRecDepth 100000 in
theorem w441 : (Jvm.Cond.code ({ cls := "EditionGrid", name := "pattern", desc := "(JIJ)I" } : Jvm.MethodName) prog_1_method_3_code (6 : Nat) (Option.some Jvm.ClassFile.FieldType.int)) ∈ zWS := zme 441 rfl rfl
set_option maxRecDepth 100000 in
theorem w442 : (Jvm.Cond.methodLink "EditionGrid" (74 : Nat) ({ cls := "EditionGrid$PatternBook", name := "put", desc := "(JIJ)I" } : Jvm.MethodName)) ∈ zWS := zme 442 rfl rfl
set_option maxRecDepth 100000 in
theorem w443 : (Jvm.Cond.instanceMethod ({ cls := "EditionGrid$PatternBook", name := "put", desc := "(JIJ)I" } : Jvm.MethodName)) ∈ zWS := zme 443 rfl rfl
set_option maxRecDepth 100000 in
theorem w444 : (Jvm.Cond.selects "EditionGrid$PatternBook" ({ cls := "EditionGrid$PatternBook", name := "put", desc := "(JIJ)I" } : Jvm.MethodName) ({ cls := "EditionGrid$PatternBook", name := "put", desc := "(JIJ)I" } : Jvm.MethodName)) ∈ zWS := zme 444 rfl rfl
set_option maxRecDepth 100000 in
theorem w445 : (Jvm.Cond.code ({ cls := "EditionGrid$PatternBook", name := "put", desc := "(JIJ)I" } : Jvm.MethodName) prog_6_method_2_code (9 : Nat) (Option.some Jvm.ClassFile.FieldType.int)) ∈ zWS := zme 445 rfl rfl
set_option maxRecDepth 100000 in
theorem w446 : (Jvm.Cond.methodLink "EditionGrid$PatternBook" (25 : Nat) ({ cls := "EditionGrid$PatternBook", name := "areSigns", desc := "(JI)Z" } : Jvm.MethodName)) ∈ zWS := zme 446 rfl rfl
set_option maxRecDepth 100000 in
theorem w447 : (Jvm.Cond.static ({ cls := "EditionGrid$PatternBook", name := "areSigns", desc := "(JI)Z" } : Jvm.MethodName)) ∈ zWS := zme 447 rfl rfl
set_option maxRecDepth 100000 in
theorem w448 : (Jvm.Cond.code ({ cls := "EditionGrid$PatternBook", name := "areSigns", desc := "(JI)Z" } : Jvm.MethodName) prog_6_method_6_code (7 : Nat) (Option.some Jvm.ClassFile.FieldType.boolean)) ∈ zWS := zme 448 rfl rfl
set_option maxRecDepth 100000 in
theorem w450 : (Jvm.Cond.static ({ cls := "EditionGrid", name := "byteOf", desc := "(JII)I" } : Jvm.MethodName)) ∈ zWS := zme 450 rfl rfl
set_option maxRecDepth 100000 in
theorem w451 : (Jvm.Cond.code ({ cls := "EditionGrid", name := "byteOf", desc := "(JII)I" } : Jvm.MethodName) prog_1_method_20_code (4 : Nat) (Option.some Jvm.ClassFile.FieldType.int)) ∈ zWS := zme 451 rfl rfl
set_option maxRecDepth 100000 in
theorem w453 : (Jvm.Cond.methodLink "EditionGrid$PatternBook" (29 : Nat) ({ cls := "EditionGrid$PatternBook", name := "areValues", desc := "(JI)Z" } : Jvm.MethodName)) ∈ zWS := zme 453 rfl rfl
set_option maxRecDepth 100000 in
theorem w454 : (Jvm.Cond.static ({ cls := "EditionGrid$PatternBook", name := "areValues", desc := "(JI)Z" } : Jvm.MethodName)) ∈ zWS := zme 454 rfl rfl
set_option maxRecDepth 100000 in
theorem w455 : (Jvm.Cond.code ({ cls := "EditionGrid$PatternBook", name := "areValues", desc := "(JI)Z" } : Jvm.MethodName) prog_6_method_7_code (4 : Nat) (Option.some Jvm.ClassFile.FieldType.boolean)) ∈ zWS := zme 455 rfl rfl
set_option maxRecDepth 100000 in
theorem w456 : (Jvm.Cond.methodLink "EditionGrid$PatternBook" (32 : Nat) ({ cls := "EditionGrid$PatternBook", name := "lowBytes", desc := "(I)J" } : Jvm.MethodName)) ∈ zWS := zme 456 rfl rfl
set_option maxRecDepth 100000 in
theorem w457 : (Jvm.Cond.static ({ cls := "EditionGrid$PatternBook", name := "lowBytes", desc := "(I)J" } : Jvm.MethodName)) ∈ zWS := zme 457 rfl rfl
set_option maxRecDepth 100000 in
theorem w458 : (Jvm.Cond.code ({ cls := "EditionGrid$PatternBook", name := "lowBytes", desc := "(I)J" } : Jvm.MethodName) prog_6_method_8_code (1 : Nat) (Option.some Jvm.ClassFile.FieldType.long)) ∈ zWS := zme 458 rfl rfl
set_option maxRecDepth 100000 in
theorem w459 : (Jvm.Cond.methodLink "EditionGrid$PatternBook" (36 : Nat) ({ cls := "EditionGrid$PatternBook", name := "placeOf", desc := "(J)I" } : Jvm.MethodName)) ∈ zWS := zme 459 rfl rfl
set_option maxRecDepth 100000 in
theorem w461 : (Jvm.Cond.instanceMethod ({ cls := "EditionGrid$PatternBook", name := "placeOf", desc := "(J)I" } : Jvm.MethodName)) ∈ zWS := zme 461 rfl rfl
set_option maxRecDepth 100000 in
theorem w462 : (Jvm.Cond.code ({ cls := "EditionGrid$PatternBook", name := "placeOf", desc := "(J)I" } : Jvm.MethodName) prog_6_method_5_code (4 : Nat) (Option.some Jvm.ClassFile.FieldType.int)) ∈ zWS := zme 462 rfl rfl
set_option maxRecDepth 100000 in
theorem w463 : (Jvm.Cond.methodLink "EditionGrid$PatternBook" (44 : Nat) ({ cls := "java/lang/Math", name := "max", desc := "(II)I" } : Jvm.MethodName)) ∈ zWS := zme 463 rfl rfl
set_option maxRecDepth 100000 in
theorem w464 : (Jvm.Cond.methodLink "EditionGridLaw" (33 : Nat) ({ cls := "EditionGrid", name := "cuts", desc := "(JI)I" } : Jvm.MethodName)) ∈ zWS := zme 464 rfl rfl
set_option maxRecDepth 100000 in
theorem w465 : (Jvm.Cond.instanceMethod ({ cls := "EditionGrid", name := "cuts", desc := "(JI)I" } : Jvm.MethodName)) ∈ zWS := zme 465 rfl rfl
set_option maxRecDepth 100000 in
theorem w466 : (Jvm.Cond.selects "EditionGrid" ({ cls := "EditionGrid", name := "cuts", desc := "(JI)I" } : Jvm.MethodName) ({ cls := "EditionGrid", name := "cuts", desc := "(JI)I" } : Jvm.MethodName)) ∈ zWS := zme 466 rfl rfl
set_option maxRecDepth 100000 in
theorem w467 : (Jvm.Cond.code ({ cls := "EditionGrid", name := "cuts", desc := "(JI)I" } : Jvm.MethodName) prog_1_method_4_code (6 : Nat) (Option.some Jvm.ClassFile.FieldType.int)) ∈ zWS := zme 467 rfl rfl
set_option maxRecDepth 100000 in
theorem w468 : (Jvm.Cond.methodLink "EditionGrid" (80 : Nat) ({ cls := "EditionGrid", name := "byteOf", desc := "(JII)I" } : Jvm.MethodName)) ∈ zWS := zme 468 rfl rfl
set_option maxRecDepth 100000 in
theorem w469 : (Jvm.Cond.methodLink "EditionGrid" (84 : Nat) ({ cls := "EditionGrid$PatternBook", name := "cutsOf", desc := "([CII)I" } : Jvm.MethodName)) ∈ zWS := zme 469 rfl rfl
set_option maxRecDepth 100000 in
theorem w470 : (Jvm.Cond.instanceMethod ({ cls := "EditionGrid$PatternBook", name := "cutsOf", desc := "([CII)I" } : Jvm.MethodName)) ∈ zWS := zme 470 rfl rfl
set_option maxRecDepth 100000 in
theorem w471 : (Jvm.Cond.selects "EditionGrid$PatternBook" ({ cls := "EditionGrid$PatternBook", name := "cutsOf", desc := "([CII)I" } : Jvm.MethodName) ({ cls := "EditionGrid$PatternBook", name := "cutsOf", desc := "([CII)I" } : Jvm.MethodName)) ∈ zWS := zme 471 rfl rfl
set_option maxRecDepth 100000 in
theorem w472 : (Jvm.Cond.code ({ cls := "EditionGrid$PatternBook", name := "cutsOf", desc := "([CII)I" } : Jvm.MethodName) prog_6_method_3_code (9 : Nat) (Option.some Jvm.ClassFile.FieldType.int)) ∈ zWS := zme 472 rfl rfl
set_option maxRecDepth 100000 in
theorem w473 : (Jvm.Cond.methodLink "EditionGrid$PatternBook" (50 : Nat) ({ cls := "java/lang/Math", name := "min", desc := "(II)I" } : Jvm.MethodName)) ∈ zWS := zme 473 rfl rfl
set_option maxRecDepth 100000 in
theorem w474 : (Jvm.Cond.methodLink "EditionGrid$PatternBook" (53 : Nat) ({ cls := "java/util/Arrays", name := "fill", desc := "([II)V" } : Jvm.MethodName)) ∈ zWS := zme 474 rfl rfl
set_option maxRecDepth 100000 in
theorem w475 : (Jvm.Cond.methodLink "EditionGrid$PatternBook" (59 : Nat) ({ cls := "EditionGrid$PatternBook", name := "raiseValues", desc := "(JI)V" } : Jvm.MethodName)) ∈ zWS := zme 475 rfl rfl
set_option maxRecDepth 100000 in
theorem w477 : (Jvm.Cond.instanceMethod ({ cls := "EditionGrid$PatternBook", name := "raiseValues", desc := "(JI)V" } : Jvm.MethodName)) ∈ zWS := zme 477 rfl rfl
set_option maxRecDepth 100000 in
theorem w478 : (Jvm.Cond.code ({ cls := "EditionGrid$PatternBook", name := "raiseValues", desc := "(JI)V" } : Jvm.MethodName) prog_6_method_4_code (8 : Nat) (Option.none : Option Jvm.ClassFile.FieldType)) ∈ zWS := zme 478 rfl rfl
set_option maxRecDepth 100000 in
theorem w479 : (Jvm.Cond.methodLink "EditionGridLaw" (38 : Nat) ({ cls := "EditionGrid", name := "feed", desc := "(JI)I" } : Jvm.MethodName)) ∈ zWS := zme 479 rfl rfl
set_option maxRecDepth 100000 in
theorem w480 : (Jvm.Cond.instanceMethod ({ cls := "EditionGrid", name := "feed", desc := "(JI)I" } : Jvm.MethodName)) ∈ zWS := zme 480 rfl rfl
set_option maxRecDepth 100000 in
theorem w481 : (Jvm.Cond.selects "EditionGrid" ({ cls := "EditionGrid", name := "feed", desc := "(JI)I" } : Jvm.MethodName) ({ cls := "EditionGrid", name := "feed", desc := "(JI)I" } : Jvm.MethodName)) ∈ zWS := zme 481 rfl rfl
set_option maxRecDepth 100000 in
theorem w482 : (Jvm.Cond.code ({ cls := "EditionGrid", name := "feed", desc := "(JI)I" } : Jvm.MethodName) prog_1_method_5_code (6 : Nat) (Option.some Jvm.ClassFile.FieldType.int)) ∈ zWS := zme 482 rfl rfl
set_option maxRecDepth 100000 in
theorem w483 : (Jvm.Cond.methodLink "EditionGridLaw" (42 : Nat) ({ cls := "EditionGrid", name := "clear", desc := "()I" } : Jvm.MethodName)) ∈ zWS := zme 483 rfl rfl
set_option maxRecDepth 100000 in
theorem w484 : (Jvm.Cond.instanceMethod ({ cls := "EditionGrid", name := "clear", desc := "()I" } : Jvm.MethodName)) ∈ zWS := zme 484 rfl rfl
set_option maxRecDepth 100000 in
theorem w485 : (Jvm.Cond.selects "EditionGrid" ({ cls := "EditionGrid", name := "clear", desc := "()I" } : Jvm.MethodName) ({ cls := "EditionGrid", name := "clear", desc := "()I" } : Jvm.MethodName)) ∈ zWS := zme 485 rfl rfl
set_option maxRecDepth 100000 in
theorem w486 : (Jvm.Cond.code ({ cls := "EditionGrid", name := "clear", desc := "()I" } : Jvm.MethodName) prog_1_method_6_code (2 : Nat) (Option.some Jvm.ClassFile.FieldType.int)) ∈ zWS := zme 486 rfl rfl
set_option maxRecDepth 100000 in
theorem w487 : (Jvm.Cond.methodLink "EditionGridLaw" (47 : Nat) ({ cls := "EditionGrid", name := "read", desc := "()I" } : Jvm.MethodName)) ∈ zWS := zme 487 rfl rfl
set_option maxRecDepth 100000 in
theorem w488 : (Jvm.Cond.instanceMethod ({ cls := "EditionGrid", name := "read", desc := "()I" } : Jvm.MethodName)) ∈ zWS := zme 488 rfl rfl
set_option maxRecDepth 100000 in
theorem w489 : (Jvm.Cond.selects "EditionGrid" ({ cls := "EditionGrid", name := "read", desc := "()I" } : Jvm.MethodName) ({ cls := "EditionGrid", name := "read", desc := "()I" } : Jvm.MethodName)) ∈ zWS := zme 489 rfl rfl
set_option maxRecDepth 100000 in
theorem w490 : (Jvm.Cond.code ({ cls := "EditionGrid", name := "read", desc := "()I" } : Jvm.MethodName) prog_1_method_7_code (1 : Nat) (Option.some Jvm.ClassFile.FieldType.int)) ∈ zWS := zme 490 rfl rfl
set_option maxRecDepth 100000 in
theorem w491 : (Jvm.Cond.methodLink "EditionGrid" (95 : Nat) ({ cls := "EditionGrid$Sheets", name := "wipe", desc := "()V" } : Jvm.MethodName)) ∈ zWS := zme 491 rfl rfl
set_option maxRecDepth 100000 in
theorem w492 : (Jvm.Cond.instanceMethod ({ cls := "EditionGrid$Sheets", name := "wipe", desc := "()V" } : Jvm.MethodName)) ∈ zWS := zme 492 rfl rfl
set_option maxRecDepth 100000 in
theorem w493 : (Jvm.Cond.selects "EditionGrid$Sheets" ({ cls := "EditionGrid$Sheets", name := "wipe", desc := "()V" } : Jvm.MethodName) ({ cls := "EditionGrid$Sheets", name := "wipe", desc := "()V" } : Jvm.MethodName)) ∈ zWS := zme 493 rfl rfl
set_option maxRecDepth 100000 in
theorem w494 : (Jvm.Cond.code ({ cls := "EditionGrid$Sheets", name := "wipe", desc := "()V" } : Jvm.MethodName) prog_9_method_2_code (1 : Nat) (Option.none : Option Jvm.ClassFile.FieldType)) ∈ zWS := zme 494 rfl rfl
set_option maxRecDepth 100000 in
theorem w495 : (Jvm.Cond.methodLink "EditionGrid$Sheets" (25 : Nat) ({ cls := "java/util/Arrays", name := "fill", desc := "([II)V" } : Jvm.MethodName)) ∈ zWS := zme 495 rfl rfl
set_option maxRecDepth 100000 in
theorem w496 : (Jvm.Cond.methodLink "EditionGrid" (104 : Nat) ({ cls := "EditionGrid$Reader", name := "readText", desc := "([CI)V" } : Jvm.MethodName)) ∈ zWS := zme 496 rfl rfl
set_option maxRecDepth 100000 in
theorem w497 : (Jvm.Cond.instanceMethod ({ cls := "EditionGrid$Reader", name := "readText", desc := "([CI)V" } : Jvm.MethodName)) ∈ zWS := zme 497 rfl rfl
set_option maxRecDepth 100000 in
theorem w498 : (Jvm.Cond.selects "EditionGrid$Reader" ({ cls := "EditionGrid$Reader", name := "readText", desc := "([CI)V" } : Jvm.MethodName) ({ cls := "EditionGrid$Reader", name := "readText", desc := "([CI)V" } : Jvm.MethodName)) ∈ zWS := zme 498 rfl rfl
set_option maxRecDepth 100000 in
theorem w499 : (Jvm.Cond.code ({ cls := "EditionGrid$Reader", name := "readText", desc := "([CI)V" } : Jvm.MethodName) prog_8_method_2_code (5 : Nat) (Option.none : Option Jvm.ClassFile.FieldType)) ∈ zWS := zme 499 rfl rfl
set_option maxRecDepth 100000 in
theorem w500 : (Jvm.Cond.methodLink "EditionGrid$Reader" (28 : Nat) ({ cls := "java/lang/Math", name := "min", desc := "(II)I" } : Jvm.MethodName)) ∈ zWS := zme 500 rfl rfl
set_option maxRecDepth 100000 in
theorem w501 : (Jvm.Cond.methodLink "EditionGrid$Reader" (37 : Nat) ({ cls := "java/lang/System", name := "arraycopy", desc := "(Ljava/lang/Object;ILjava/lang/Object;II)V" } : Jvm.MethodName)) ∈ zWS := zme 501 rfl rfl
set_option maxRecDepth 100000 in
theorem w502 : (Jvm.Cond.static ({ cls := "java/lang/System", name := "arraycopy", desc := "(Ljava/lang/Object;ILjava/lang/Object;II)V" } : Jvm.MethodName)) ∈ zWS := zme 502 rfl rfl
set_option maxRecDepth 100000 in
theorem w503 : (Jvm.Cond.native ({ cls := "java/lang/System", name := "arraycopy", desc := "(Ljava/lang/Object;ILjava/lang/Object;II)V" } : Jvm.MethodName)) ∈ zWS := zme 503 rfl rfl
set_option maxRecDepth 100000 in
theorem w504 : (Jvm.Cond.methodLink "EditionGrid$Reader" (49 : Nat) ({ cls := "EditionGrid$Reader", name := "readStory", desc := "(LEditionGrid$Story;)Z" } : Jvm.MethodName)) ∈ zWS := zme 504 rfl rfl
set_option maxRecDepth 100000 in
theorem w506 : (Jvm.Cond.instanceMethod ({ cls := "EditionGrid$Reader", name := "readStory", desc := "(LEditionGrid$Story;)Z" } : Jvm.MethodName)) ∈ zWS := zme 506 rfl rfl
set_option maxRecDepth 100000 in
theorem w507 : (Jvm.Cond.code ({ cls := "EditionGrid$Reader", name := "readStory", desc := "(LEditionGrid$Story;)Z" } : Jvm.MethodName) prog_8_method_3_code (4 : Nat) (Option.some Jvm.ClassFile.FieldType.boolean)) ∈ zWS := zme 507 rfl rfl
set_option maxRecDepth 100000 in
theorem w508 : (Jvm.Cond.methodLink "EditionGrid$Reader" (53 : Nat) ({ cls := "EditionGrid$Story", name := "forgetText", desc := "()V" } : Jvm.MethodName)) ∈ zWS := zme 508 rfl rfl
set_option maxRecDepth 100000 in
theorem w509 : (Jvm.Cond.instanceMethod ({ cls := "EditionGrid$Story", name := "forgetText", desc := "()V" } : Jvm.MethodName)) ∈ zWS := zme 509 rfl rfl
set_option maxRecDepth 100000 in
theorem w510 : (Jvm.Cond.selects "EditionGrid$Story" ({ cls := "EditionGrid$Story", name := "forgetText", desc := "()V" } : Jvm.MethodName) ({ cls := "EditionGrid$Story", name := "forgetText", desc := "()V" } : Jvm.MethodName)) ∈ zWS := zme 510 rfl rfl
set_option maxRecDepth 100000 in
theorem w511 : (Jvm.Cond.code ({ cls := "EditionGrid$Story", name := "forgetText", desc := "()V" } : Jvm.MethodName) prog_10_method_2_code (1 : Nat) (Option.none : Option Jvm.ClassFile.FieldType)) ∈ zWS := zme 511 rfl rfl
set_option maxRecDepth 100000 in
theorem w512 : (Jvm.Cond.methodLink "EditionGrid$Reader" (56 : Nat) ({ cls := "EditionGrid$Reader", name := "pass", desc := "(I)Z" } : Jvm.MethodName)) ∈ zWS := zme 512 rfl rfl
set_option maxRecDepth 100000 in
theorem w514 : (Jvm.Cond.instanceMethod ({ cls := "EditionGrid$Reader", name := "pass", desc := "(I)Z" } : Jvm.MethodName)) ∈ zWS := zme 514 rfl rfl
set_option maxRecDepth 100000 in
theorem w515 : (Jvm.Cond.code ({ cls := "EditionGrid$Reader", name := "pass", desc := "(I)Z" } : Jvm.MethodName) prog_8_method_8_code (2 : Nat) (Option.some Jvm.ClassFile.FieldType.boolean)) ∈ zWS := zme 515 rfl rfl
set_option maxRecDepth 100000 in
theorem w516 : (Jvm.Cond.methodLink "EditionGrid$Reader" (60 : Nat) ({ cls := "EditionGrid$Reader", name := "next", desc := "()I" } : Jvm.MethodName)) ∈ zWS := zme 516 rfl rfl
set_option maxRecDepth 100000 in
theorem w518 : (Jvm.Cond.instanceMethod ({ cls := "EditionGrid$Reader", name := "next", desc := "()I" } : Jvm.MethodName)) ∈ zWS := zme 518 rfl rfl
set_option maxRecDepth 100000 in
theorem w519 : (Jvm.Cond.code ({ cls := "EditionGrid$Reader", name := "next", desc := "()I" } : Jvm.MethodName) prog_8_method_9_code (1 : Nat) (Option.some Jvm.ClassFile.FieldType.int)) ∈ zWS := zme 519 rfl rfl
set_option maxRecDepth 100000 in
theorem w521 : (Jvm.Cond.static ({ cls := "EditionGrid", name := "isDigit", desc := "(II)Z" } : Jvm.MethodName)) ∈ zWS := zme 521 rfl rfl
set_option maxRecDepth 100000 in
theorem w522 : (Jvm.Cond.code ({ cls := "EditionGrid", name := "isDigit", desc := "(II)Z" } : Jvm.MethodName) prog_1_method_19_code (2 : Nat) (Option.some Jvm.ClassFile.FieldType.boolean)) ∈ zWS := zme 522 rfl rfl
set_option maxRecDepth 100000 in
theorem w523 : (Jvm.Cond.methodLink "EditionGrid$Reader" (74 : Nat) ({ cls := "EditionGrid$Reader", name := "readWords", desc := "(I)Z" } : Jvm.MethodName)) ∈ zWS := zme 523 rfl rfl
set_option maxRecDepth 100000 in
theorem w525 : (Jvm.Cond.instanceMethod ({ cls := "EditionGrid$Reader", name := "readWords", desc := "(I)Z" } : Jvm.MethodName)) ∈ zWS := zme 525 rfl rfl
set_option maxRecDepth 100000 in
theorem w526 : (Jvm.Cond.code ({ cls := "EditionGrid$Reader", name := "readWords", desc := "(I)Z" } : Jvm.MethodName) prog_8_method_6_code (3 : Nat) (Option.some Jvm.ClassFile.FieldType.boolean)) ∈ zWS := zme 526 rfl rfl
set_option maxRecDepth 100000 in
theorem w527 : (Jvm.Cond.methodLink "EditionGrid$Reader" (102 : Nat) ({ cls := "EditionGrid$Reader", name := "readWord", desc := "()Z" } : Jvm.MethodName)) ∈ zWS := zme 527 rfl rfl
set_option maxRecDepth 100000 in
theorem w529 : (Jvm.Cond.instanceMethod ({ cls := "EditionGrid$Reader", name := "readWord", desc := "()Z" } : Jvm.MethodName)) ∈ zWS := zme 529 rfl rfl
set_option maxRecDepth 100000 in
theorem w530 : (Jvm.Cond.code ({ cls := "EditionGrid$Reader", name := "readWord", desc := "()Z" } : Jvm.MethodName) prog_8_method_7_code (2 : Nat) (Option.some Jvm.ClassFile.FieldType.boolean)) ∈ zWS := zme 530 rfl rfl
set_option maxRecDepth 100000 in
theorem w532 : (Jvm.Cond.methodLink "EditionGrid$Reader" (80 : Nat) ({ cls := "EditionGrid$Reader", name := "readPart", desc := "(LEditionGrid$Story;)Z" } : Jvm.MethodName)) ∈ zWS := zme 532 rfl rfl
set_option maxRecDepth 100000 in
theorem w534 : (Jvm.Cond.instanceMethod ({ cls := "EditionGrid$Reader", name := "readPart", desc := "(LEditionGrid$Story;)Z" } : Jvm.MethodName)) ∈ zWS := zme 534 rfl rfl
set_option maxRecDepth 100000 in
theorem w535 : (Jvm.Cond.code ({ cls := "EditionGrid$Reader", name := "readPart", desc := "(LEditionGrid$Story;)Z" } : Jvm.MethodName) prog_8_method_4_code (2 : Nat) (Option.some Jvm.ClassFile.FieldType.boolean)) ∈ zWS := zme 535 rfl rfl
set_option maxRecDepth 100000 in
theorem w536 : (Jvm.Cond.methodLink "EditionGrid$Reader" (86 : Nat) ({ cls := "EditionGrid$Reader", name := "readFigure", desc := "(LEditionGrid$Story;)Z" } : Jvm.MethodName)) ∈ zWS := zme 536 rfl rfl
set_option maxRecDepth 100000 in
theorem w538 : (Jvm.Cond.instanceMethod ({ cls := "EditionGrid$Reader", name := "readFigure", desc := "(LEditionGrid$Story;)Z" } : Jvm.MethodName)) ∈ zWS := zme 538 rfl rfl
set_option maxRecDepth 100000 in
theorem w539 : (Jvm.Cond.code ({ cls := "EditionGrid$Reader", name := "readFigure", desc := "(LEditionGrid$Story;)Z" } : Jvm.MethodName) prog_8_method_5_code (2 : Nat) (Option.some Jvm.ClassFile.FieldType.boolean)) ∈ zWS := zme 539 rfl rfl
set_option maxRecDepth 100000 in
theorem w540 : (Jvm.Cond.methodLink "EditionGridLaw" (51 : Nat) ({ cls := "EditionGrid", name := "fault", desc := "()I" } : Jvm.MethodName)) ∈ zWS := zme 540 rfl rfl
set_option maxRecDepth 100000 in
theorem w541 : (Jvm.Cond.instanceMethod ({ cls := "EditionGrid", name := "fault", desc := "()I" } : Jvm.MethodName)) ∈ zWS := zme 541 rfl rfl
set_option maxRecDepth 100000 in
theorem w542 : (Jvm.Cond.selects "EditionGrid" ({ cls := "EditionGrid", name := "fault", desc := "()I" } : Jvm.MethodName) ({ cls := "EditionGrid", name := "fault", desc := "()I" } : Jvm.MethodName)) ∈ zWS := zme 542 rfl rfl
set_option maxRecDepth 100000 in
theorem w543 : (Jvm.Cond.code ({ cls := "EditionGrid", name := "fault", desc := "()I" } : Jvm.MethodName) prog_1_method_8_code (1 : Nat) (Option.some Jvm.ClassFile.FieldType.int)) ∈ zWS := zme 543 rfl rfl
set_option maxRecDepth 100000 in
theorem w544 : (Jvm.Cond.methodLink "EditionGridLaw" (55 : Nat) ({ cls := "EditionGrid", name := "plan", desc := "()I" } : Jvm.MethodName)) ∈ zWS := zme 544 rfl rfl
set_option maxRecDepth 100000 in
theorem w545 : (Jvm.Cond.instanceMethod ({ cls := "EditionGrid", name := "plan", desc := "()I" } : Jvm.MethodName)) ∈ zWS := zme 545 rfl rfl
set_option maxRecDepth 100000 in
theorem w546 : (Jvm.Cond.selects "EditionGrid" ({ cls := "EditionGrid", name := "plan", desc := "()I" } : Jvm.MethodName) ({ cls := "EditionGrid", name := "plan", desc := "()I" } : Jvm.MethodName)) ∈ zWS := zme 546 rfl rfl
set_option maxRecDepth 100000 in
theorem w547 : (Jvm.Cond.code ({ cls := "EditionGrid", name := "plan", desc := "()I" } : Jvm.MethodName) prog_1_method_9_code (5 : Nat) (Option.some Jvm.ClassFile.FieldType.int)) ∈ zWS := zme 547 rfl rfl
set_option maxRecDepth 100000 in
theorem w548 : (Jvm.Cond.methodLink "EditionGrid" (117 : Nat) ({ cls := "EditionGrid$Painter", name := "keep", desc := "([C[I)V" } : Jvm.MethodName)) ∈ zWS := zme 548 rfl rfl
set_option maxRecDepth 100000 in
theorem w549 : (Jvm.Cond.instanceMethod ({ cls := "EditionGrid$Painter", name := "keep", desc := "([C[I)V" } : Jvm.MethodName)) ∈ zWS := zme 549 rfl rfl
set_option maxRecDepth 100000 in
theorem w550 : (Jvm.Cond.selects "EditionGrid$Painter" ({ cls := "EditionGrid$Painter", name := "keep", desc := "([C[I)V" } : Jvm.MethodName) ({ cls := "EditionGrid$Painter", name := "keep", desc := "([C[I)V" } : Jvm.MethodName)) ∈ zWS := zme 550 rfl rfl
set_option maxRecDepth 100000 in
theorem w551 : (Jvm.Cond.code ({ cls := "EditionGrid$Painter", name := "keep", desc := "([C[I)V" } : Jvm.MethodName) prog_4_method_2_code (3 : Nat) (Option.none : Option Jvm.ClassFile.FieldType)) ∈ zWS := zme 551 rfl rfl
set_option maxRecDepth 100000 in
theorem w552 : (Jvm.Cond.methodLink "EditionGrid$Painter" (23 : Nat) ({ cls := "java/lang/System", name := "arraycopy", desc := "(Ljava/lang/Object;ILjava/lang/Object;II)V" } : Jvm.MethodName)) ∈ zWS := zme 552 rfl rfl
set_option maxRecDepth 100000 in
theorem w553 : (Jvm.Cond.methodLink "EditionGrid" (130 : Nat) ({ cls := "EditionGrid$Breaker", name := "breakStory", desc := "(LEditionGrid$Story;[C[I)V" } : Jvm.MethodName)) ∈ zWS := zme 553 rfl rfl
set_option maxRecDepth 100000 in
theorem w554 : (Jvm.Cond.instanceMethod ({ cls := "EditionGrid$Breaker", name := "breakStory", desc := "(LEditionGrid$Story;[C[I)V" } : Jvm.MethodName)) ∈ zWS := zme 554 rfl rfl
set_option maxRecDepth 100000 in
theorem w555 : (Jvm.Cond.selects "EditionGrid$Breaker" ({ cls := "EditionGrid$Breaker", name := "breakStory", desc := "(LEditionGrid$Story;[C[I)V" } : Jvm.MethodName) ({ cls := "EditionGrid$Breaker", name := "breakStory", desc := "(LEditionGrid$Story;[C[I)V" } : Jvm.MethodName)) ∈ zWS := zme 555 rfl rfl
set_option maxRecDepth 100000 in
theorem w556 : (Jvm.Cond.code ({ cls := "EditionGrid$Breaker", name := "breakStory", desc := "(LEditionGrid$Story;[C[I)V" } : Jvm.MethodName) prog_2_method_2_code (6 : Nat) (Option.none : Option Jvm.ClassFile.FieldType)) ∈ zWS := zme 556 rfl rfl
set_option maxRecDepth 100000 in
theorem w557 : (Jvm.Cond.methodLink "EditionGrid$Breaker" (35 : Nat) ({ cls := "EditionGrid$Story", name := "forgetPlan", desc := "()V" } : Jvm.MethodName)) ∈ zWS := zme 557 rfl rfl
set_option maxRecDepth 100000 in
theorem w558 : (Jvm.Cond.instanceMethod ({ cls := "EditionGrid$Story", name := "forgetPlan", desc := "()V" } : Jvm.MethodName)) ∈ zWS := zme 558 rfl rfl
set_option maxRecDepth 100000 in
theorem w559 : (Jvm.Cond.selects "EditionGrid$Story" ({ cls := "EditionGrid$Story", name := "forgetPlan", desc := "()V" } : Jvm.MethodName) ({ cls := "EditionGrid$Story", name := "forgetPlan", desc := "()V" } : Jvm.MethodName)) ∈ zWS := zme 559 rfl rfl
set_option maxRecDepth 100000 in
theorem w560 : (Jvm.Cond.code ({ cls := "EditionGrid$Story", name := "forgetPlan", desc := "()V" } : Jvm.MethodName) prog_10_method_3_code (1 : Nat) (Option.none : Option Jvm.ClassFile.FieldType)) ∈ zWS := zme 560 rfl rfl
set_option maxRecDepth 100000 in
theorem w561 : (Jvm.Cond.methodLink "EditionGrid$Breaker" (49 : Nat) ({ cls := "java/lang/Math", name := "min", desc := "(II)I" } : Jvm.MethodName)) ∈ zWS := zme 561 rfl rfl
set_option maxRecDepth 100000 in
theorem w562 : (Jvm.Cond.methodLink "EditionGrid$Breaker" (58 : Nat) ({ cls := "EditionGrid$Breaker", name := "measureCharacters", desc := "([CI[I)V" } : Jvm.MethodName)) ∈ zWS := zme 562 rfl rfl
set_option maxRecDepth 100000 in
theorem w564 : (Jvm.Cond.instanceMethod ({ cls := "EditionGrid$Breaker", name := "measureCharacters", desc := "([CI[I)V" } : Jvm.MethodName)) ∈ zWS := zme 564 rfl rfl
set_option maxRecDepth 100000 in
theorem w565 : (Jvm.Cond.code ({ cls := "EditionGrid$Breaker", name := "measureCharacters", desc := "([CI[I)V" } : Jvm.MethodName) prog_2_method_3_code (6 : Nat) (Option.none : Option Jvm.ClassFile.FieldType)) ∈ zWS := zme 565 rfl rfl
set_option maxRecDepth 100000 in
theorem w567 : (Jvm.Cond.methodLink "EditionGrid$Breaker" (62 : Nat) ({ cls := "EditionGrid$Breaker", name := "markEnds", desc := "([CI)V" } : Jvm.MethodName)) ∈ zWS := zme 567 rfl rfl
set_option maxRecDepth 100000 in
theorem w569 : (Jvm.Cond.instanceMethod ({ cls := "EditionGrid$Breaker", name := "markEnds", desc := "([CI)V" } : Jvm.MethodName)) ∈ zWS := zme 569 rfl rfl
set_option maxRecDepth 100000 in
theorem w570 : (Jvm.Cond.code ({ cls := "EditionGrid$Breaker", name := "markEnds", desc := "([CI)V" } : Jvm.MethodName) prog_2_method_4_code (5 : Nat) (Option.none : Option Jvm.ClassFile.FieldType)) ∈ zWS := zme 570 rfl rfl
set_option maxRecDepth 100000 in
theorem w571 : (Jvm.Cond.methodLink "EditionGrid$Breaker" (84 : Nat) ({ cls := "EditionGrid$PatternBook", name := "cutsOf", desc := "([CII)I" } : Jvm.MethodName)) ∈ zWS := zme 571 rfl rfl
set_option maxRecDepth 100000 in
theorem w572 : (Jvm.Cond.methodLink "EditionGrid$Breaker" (88 : Nat) ({ cls := "EditionGrid$Breaker", name := "markWord", desc := "(III)V" } : Jvm.MethodName)) ∈ zWS := zme 572 rfl rfl
set_option maxRecDepth 100000 in
theorem w574 : (Jvm.Cond.instanceMethod ({ cls := "EditionGrid$Breaker", name := "markWord", desc := "(III)V" } : Jvm.MethodName)) ∈ zWS := zme 574 rfl rfl
set_option maxRecDepth 100000 in
theorem w575 : (Jvm.Cond.code ({ cls := "EditionGrid$Breaker", name := "markWord", desc := "(III)V" } : Jvm.MethodName) prog_2_method_5_code (5 : Nat) (Option.none : Option Jvm.ClassFile.FieldType)) ∈ zWS := zme 575 rfl rfl
set_option maxRecDepth 100000 in
theorem w577 : (Jvm.Cond.static ({ cls := "EditionGrid", name := "hasBit", desc := "(JI)Z" } : Jvm.MethodName)) ∈ zWS := zme 577 rfl rfl
set_option maxRecDepth 100000 in
theorem w578 : (Jvm.Cond.code ({ cls := "EditionGrid", name := "hasBit", desc := "(JI)Z" } : Jvm.MethodName) prog_1_method_21_code (3 : Nat) (Option.some Jvm.ClassFile.FieldType.boolean)) ∈ zWS := zme 578 rfl rfl
set_option maxRecDepth 100000 in
theorem w579 : (Jvm.Cond.methodLink "EditionGrid$Breaker" (69 : Nat) ({ cls := "EditionGrid$Breaker", name := "leastCost", desc := "()I" } : Jvm.MethodName)) ∈ zWS := zme 579 rfl rfl
set_option maxRecDepth 100000 in
theorem w581 : (Jvm.Cond.instanceMethod ({ cls := "EditionGrid$Breaker", name := "leastCost", desc := "()I" } : Jvm.MethodName)) ∈ zWS := zme 581 rfl rfl
set_option maxRecDepth 100000 in
theorem w582 : (Jvm.Cond.code ({ cls := "EditionGrid$Breaker", name := "leastCost", desc := "()I" } : Jvm.MethodName) prog_2_method_6_code (3 : Nat) (Option.some Jvm.ClassFile.FieldType.int)) ∈ zWS := zme 582 rfl rfl
set_option maxRecDepth 100000 in
theorem w583 : (Jvm.Cond.methodLink "EditionGrid$Breaker" (96 : Nat) ({ cls := "EditionGrid$Breaker", name := "chooseLine", desc := "(I)V" } : Jvm.MethodName)) ∈ zWS := zme 583 rfl rfl
set_option maxRecDepth 100000 in
theorem w585 : (Jvm.Cond.instanceMethod ({ cls := "EditionGrid$Breaker", name := "chooseLine", desc := "(I)V" } : Jvm.MethodName)) ∈ zWS := zme 585 rfl rfl
set_option maxRecDepth 100000 in
theorem w586 : (Jvm.Cond.code ({ cls := "EditionGrid$Breaker", name := "chooseLine", desc := "(I)V" } : Jvm.MethodName) prog_2_method_7_code (4 : Nat) (Option.none : Option Jvm.ClassFile.FieldType)) ∈ zWS := zme 586 rfl rfl
set_option maxRecDepth 100000 in
theorem w587 : (Jvm.Cond.methodLink "EditionGrid$Breaker" (100 : Nat) ({ cls := "EditionGrid$Breaker", name := "costWith", desc := "(II)I" } : Jvm.MethodName)) ∈ zWS := zme 587 rfl rfl
set_option maxRecDepth 100000 in
theorem w589 : (Jvm.Cond.instanceMethod ({ cls := "EditionGrid$Breaker", name := "costWith", desc := "(II)I" } : Jvm.MethodName)) ∈ zWS := zme 589 rfl rfl
set_option maxRecDepth 100000 in
theorem w590 : (Jvm.Cond.code ({ cls := "EditionGrid$Breaker", name := "costWith", desc := "(II)I" } : Jvm.MethodName) prog_2_method_8_code (6 : Nat) (Option.some Jvm.ClassFile.FieldType.int)) ∈ zWS := zme 590 rfl rfl
set_option maxRecDepth 100000 in
theorem w591 : (Jvm.Cond.methodLink "EditionGrid$Breaker" (103 : Nat) ({ cls := "EditionGrid$Breaker", name := "nextBegin", desc := "(I)I" } : Jvm.MethodName)) ∈ zWS := zme 591 rfl rfl
set_option maxRecDepth 100000 in
theorem w593 : (Jvm.Cond.instanceMethod ({ cls := "EditionGrid$Breaker", name := "nextBegin", desc := "(I)I" } : Jvm.MethodName)) ∈ zWS := zme 593 rfl rfl
set_option maxRecDepth 100000 in
theorem w594 : (Jvm.Cond.code ({ cls := "EditionGrid$Breaker", name := "nextBegin", desc := "(I)I" } : Jvm.MethodName) prog_2_method_9_code (2 : Nat) (Option.some Jvm.ClassFile.FieldType.int)) ∈ zWS := zme 594 rfl rfl
set_option maxRecDepth 100000 in
theorem w595 : (Jvm.Cond.methodLink "EditionGrid$Breaker" (76 : Nat) ({ cls := "EditionGrid$Breaker", name := "addLines", desc := "(LEditionGrid$Story;I)V" } : Jvm.MethodName)) ∈ zWS := zme 595 rfl rfl
set_option maxRecDepth 100000 in
theorem w597 : (Jvm.Cond.instanceMethod ({ cls := "EditionGrid$Breaker", name := "addLines", desc := "(LEditionGrid$Story;I)V" } : Jvm.MethodName)) ∈ zWS := zme 597 rfl rfl
set_option maxRecDepth 100000 in
theorem w598 : (Jvm.Cond.code ({ cls := "EditionGrid$Breaker", name := "addLines", desc := "(LEditionGrid$Story;I)V" } : Jvm.MethodName) prog_2_method_10_code (7 : Nat) (Option.none : Option Jvm.ClassFile.FieldType)) ∈ zWS := zme 598 rfl rfl
set_option maxRecDepth 100000 in
theorem w599 : (Jvm.Cond.methodLink "EditionGrid$Breaker" (110 : Nat) ({ cls := "EditionGrid$Story", name := "addLine", desc := "(III)V" } : Jvm.MethodName)) ∈ zWS := zme 599 rfl rfl
set_option maxRecDepth 100000 in
theorem w600 : (Jvm.Cond.instanceMethod ({ cls := "EditionGrid$Story", name := "addLine", desc := "(III)V" } : Jvm.MethodName)) ∈ zWS := zme 600 rfl rfl
set_option maxRecDepth 100000 in
theorem w601 : (Jvm.Cond.selects "EditionGrid$Story" ({ cls := "EditionGrid$Story", name := "addLine", desc := "(III)V" } : Jvm.MethodName) ({ cls := "EditionGrid$Story", name := "addLine", desc := "(III)V" } : Jvm.MethodName)) ∈ zWS := zme 601 rfl rfl
set_option maxRecDepth 100000 in
theorem w602 : (Jvm.Cond.code ({ cls := "EditionGrid$Story", name := "addLine", desc := "(III)V" } : Jvm.MethodName) prog_10_method_4_code (4 : Nat) (Option.none : Option Jvm.ClassFile.FieldType)) ∈ zWS := zme 602 rfl rfl
set_option maxRecDepth 100000 in
theorem w603 : (Jvm.Cond.methodLink "EditionGrid$Breaker" (113 : Nat) ({ cls := "EditionGrid$Story", name := "markBadBreaks", desc := "(I)V" } : Jvm.MethodName)) ∈ zWS := zme 603 rfl rfl
set_option maxRecDepth 100000 in
theorem w604 : (Jvm.Cond.instanceMethod ({ cls := "EditionGrid$Story", name := "markBadBreaks", desc := "(I)V" } : Jvm.MethodName)) ∈ zWS := zme 604 rfl rfl
set_option maxRecDepth 100000 in
theorem w605 : (Jvm.Cond.selects "EditionGrid$Story" ({ cls := "EditionGrid$Story", name := "markBadBreaks", desc := "(I)V" } : Jvm.MethodName) ({ cls := "EditionGrid$Story", name := "markBadBreaks", desc := "(I)V" } : Jvm.MethodName)) ∈ zWS := zme 605 rfl rfl
set_option maxRecDepth 100000 in
theorem w606 : (Jvm.Cond.code ({ cls := "EditionGrid$Story", name := "markBadBreaks", desc := "(I)V" } : Jvm.MethodName) prog_10_method_5_code (3 : Nat) (Option.none : Option Jvm.ClassFile.FieldType)) ∈ zWS := zme 606 rfl rfl
set_option maxRecDepth 100000 in
theorem w607 : (Jvm.Cond.methodLink "EditionGrid" (134 : Nat) ({ cls := "EditionGrid$Planner", name := "placeStory", desc := "(LEditionGrid$Story;)V" } : Jvm.MethodName)) ∈ zWS := zme 607 rfl rfl
set_option maxRecDepth 100000 in
theorem w608 : (Jvm.Cond.instanceMethod ({ cls := "EditionGrid$Planner", name := "placeStory", desc := "(LEditionGrid$Story;)V" } : Jvm.MethodName)) ∈ zWS := zme 608 rfl rfl
set_option maxRecDepth 100000 in
theorem w609 : (Jvm.Cond.selects "EditionGrid$Planner" ({ cls := "EditionGrid$Planner", name := "placeStory", desc := "(LEditionGrid$Story;)V" } : Jvm.MethodName) ({ cls := "EditionGrid$Planner", name := "placeStory", desc := "(LEditionGrid$Story;)V" } : Jvm.MethodName)) ∈ zWS := zme 609 rfl rfl
set_option maxRecDepth 100000 in
theorem w610 : (Jvm.Cond.code ({ cls := "EditionGrid$Planner", name := "placeStory", desc := "(LEditionGrid$Story;)V" } : Jvm.MethodName) prog_7_method_2_code (2 : Nat) (Option.none : Option Jvm.ClassFile.FieldType)) ∈ zWS := zme 610 rfl rfl
set_option maxRecDepth 100000 in
theorem w611 : (Jvm.Cond.methodLink "EditionGrid$Planner" (40 : Nat) ({ cls := "EditionGrid$Planner", name := "placeWhole", desc := "(LEditionGrid$Story;II)Z" } : Jvm.MethodName)) ∈ zWS := zme 611 rfl rfl
set_option maxRecDepth 100000 in
theorem w613 : (Jvm.Cond.instanceMethod ({ cls := "EditionGrid$Planner", name := "placeWhole", desc := "(LEditionGrid$Story;II)Z" } : Jvm.MethodName)) ∈ zWS := zme 613 rfl rfl
set_option maxRecDepth 100000 in
theorem w614 : (Jvm.Cond.code ({ cls := "EditionGrid$Planner", name := "placeWhole", desc := "(LEditionGrid$Story;II)Z" } : Jvm.MethodName) prog_7_method_3_code (7 : Nat) (Option.some Jvm.ClassFile.FieldType.boolean)) ∈ zWS := zme 614 rfl rfl
set_option maxRecDepth 100000 in
theorem w615 : (Jvm.Cond.methodLink "EditionGrid$Planner" (65 : Nat) ({ cls := "EditionGrid$Planner", name := "leastHeight", desc := "(LEditionGrid$Story;II)I" } : Jvm.MethodName)) ∈ zWS := zme 615 rfl rfl
set_option maxRecDepth 100000 in
theorem w617 : (Jvm.Cond.instanceMethod ({ cls := "EditionGrid$Planner", name := "leastHeight", desc := "(LEditionGrid$Story;II)I" } : Jvm.MethodName)) ∈ zWS := zme 617 rfl rfl
set_option maxRecDepth 100000 in
theorem w618 : (Jvm.Cond.code ({ cls := "EditionGrid$Planner", name := "leastHeight", desc := "(LEditionGrid$Story;II)I" } : Jvm.MethodName) prog_7_method_4_code (5 : Nat) (Option.some Jvm.ClassFile.FieldType.int)) ∈ zWS := zme 618 rfl rfl
set_option maxRecDepth 100000 in
theorem w619 : (Jvm.Cond.methodLink "EditionGrid$Planner" (81 : Nat) ({ cls := "EditionGrid$Columns", name := "setRooms", desc := "(LEditionGrid$Story;IIII)Z" } : Jvm.MethodName)) ∈ zWS := zme 619 rfl rfl
set_option maxRecDepth 100000 in
theorem w620 : (Jvm.Cond.instanceMethod ({ cls := "EditionGrid$Columns", name := "setRooms", desc := "(LEditionGrid$Story;IIII)Z" } : Jvm.MethodName)) ∈ zWS := zme 620 rfl rfl
set_option maxRecDepth 100000 in
theorem w621 : (Jvm.Cond.selects "EditionGrid$Columns" ({ cls := "EditionGrid$Columns", name := "setRooms", desc := "(LEditionGrid$Story;IIII)Z" } : Jvm.MethodName) ({ cls := "EditionGrid$Columns", name := "setRooms", desc := "(LEditionGrid$Story;IIII)Z" } : Jvm.MethodName)) ∈ zWS := zme 621 rfl rfl
set_option maxRecDepth 100000 in
theorem w622 : (Jvm.Cond.code ({ cls := "EditionGrid$Columns", name := "setRooms", desc := "(LEditionGrid$Story;IIII)Z" } : Jvm.MethodName) prog_3_method_2_code (8 : Nat) (Option.some Jvm.ClassFile.FieldType.boolean)) ∈ zWS := zme 622 rfl rfl
set_option maxRecDepth 100000 in
theorem w623 : (Jvm.Cond.methodLink "EditionGrid$Planner" (85 : Nat) ({ cls := "EditionGrid$Story", name := "goodEnds", desc := "()J" } : Jvm.MethodName)) ∈ zWS := zme 623 rfl rfl
set_option maxRecDepth 100000 in
theorem w624 : (Jvm.Cond.instanceMethod ({ cls := "EditionGrid$Story", name := "goodEnds", desc := "()J" } : Jvm.MethodName)) ∈ zWS := zme 624 rfl rfl
set_option maxRecDepth 100000 in
theorem w625 : (Jvm.Cond.selects "EditionGrid$Story" ({ cls := "EditionGrid$Story", name := "goodEnds", desc := "()J" } : Jvm.MethodName) ({ cls := "EditionGrid$Story", name := "goodEnds", desc := "()J" } : Jvm.MethodName)) ∈ zWS := zme 625 rfl rfl
set_option maxRecDepth 100000 in
theorem w626 : (Jvm.Cond.code ({ cls := "EditionGrid$Story", name := "goodEnds", desc := "()J" } : Jvm.MethodName) prog_10_method_6_code (1 : Nat) (Option.some Jvm.ClassFile.FieldType.long)) ∈ zWS := zme 626 rfl rfl
set_option maxRecDepth 100000 in
theorem w627 : (Jvm.Cond.constantLong "EditionGrid$Story" (63 : Nat) (-1 : Int64)) ∈ zWS := zme 627 rfl rfl
set_option maxRecDepth 100000 in
theorem w628 : (Jvm.Cond.methodLink "EditionGrid$Planner" (89 : Nat) ({ cls := "EditionGrid$Columns", name := "endsFrom", desc := "(IJ)J" } : Jvm.MethodName)) ∈ zWS := zme 628 rfl rfl
set_option maxRecDepth 100000 in
theorem w629 : (Jvm.Cond.instanceMethod ({ cls := "EditionGrid$Columns", name := "endsFrom", desc := "(IJ)J" } : Jvm.MethodName)) ∈ zWS := zme 629 rfl rfl
set_option maxRecDepth 100000 in
theorem w630 : (Jvm.Cond.selects "EditionGrid$Columns" ({ cls := "EditionGrid$Columns", name := "endsFrom", desc := "(IJ)J" } : Jvm.MethodName) ({ cls := "EditionGrid$Columns", name := "endsFrom", desc := "(IJ)J" } : Jvm.MethodName)) ∈ zWS := zme 630 rfl rfl
set_option maxRecDepth 100000 in
theorem w631 : (Jvm.Cond.code ({ cls := "EditionGrid$Columns", name := "endsFrom", desc := "(IJ)J" } : Jvm.MethodName) prog_3_method_3_code (10 : Nat) (Option.some Jvm.ClassFile.FieldType.long)) ∈ zWS := zme 631 rfl rfl
set_option maxRecDepth 100000 in
theorem w633 : (Jvm.Cond.methodLink "EditionGrid$Planner" (69 : Nat) ({ cls := "EditionGrid$Sheets", name := "standFirst", desc := "(LEditionGrid$Part;III)Z" } : Jvm.MethodName)) ∈ zWS := zme 633 rfl rfl
set_option maxRecDepth 100000 in
theorem w634 : (Jvm.Cond.instanceMethod ({ cls := "EditionGrid$Sheets", name := "standFirst", desc := "(LEditionGrid$Part;III)Z" } : Jvm.MethodName)) ∈ zWS := zme 634 rfl rfl
set_option maxRecDepth 100000 in
theorem w635 : (Jvm.Cond.selects "EditionGrid$Sheets" ({ cls := "EditionGrid$Sheets", name := "standFirst", desc := "(LEditionGrid$Part;III)Z" } : Jvm.MethodName) ({ cls := "EditionGrid$Sheets", name := "standFirst", desc := "(LEditionGrid$Part;III)Z" } : Jvm.MethodName)) ∈ zWS := zme 635 rfl rfl
set_option maxRecDepth 100000 in
theorem w636 : (Jvm.Cond.code ({ cls := "EditionGrid$Sheets", name := "standFirst", desc := "(LEditionGrid$Part;III)Z" } : Jvm.MethodName) prog_9_method_6_code (8 : Nat) (Option.some Jvm.ClassFile.FieldType.boolean)) ∈ zWS := zme 636 rfl rfl
set_option maxRecDepth 100000 in
theorem w637 : (Jvm.Cond.methodLink "EditionGrid$Sheets" (31 : Nat) ({ cls := "EditionGrid$Sheets", name := "takenIn", desc := "(III)I" } : Jvm.MethodName)) ∈ zWS := zme 637 rfl rfl
set_option maxRecDepth 100000 in
theorem w639 : (Jvm.Cond.instanceMethod ({ cls := "EditionGrid$Sheets", name := "takenIn", desc := "(III)I" } : Jvm.MethodName)) ∈ zWS := zme 639 rfl rfl
set_option maxRecDepth 100000 in
theorem w640 : (Jvm.Cond.code ({ cls := "EditionGrid$Sheets", name := "takenIn", desc := "(III)I" } : Jvm.MethodName) prog_9_method_8_code (6 : Nat) (Option.some Jvm.ClassFile.FieldType.int)) ∈ zWS := zme 640 rfl rfl
set_option maxRecDepth 100000 in
theorem w641 : (Jvm.Cond.methodLink "EditionGrid$Sheets" (35 : Nat) ({ cls := "EditionGrid$Part", name := "stand", desc := "(IIIII)V" } : Jvm.MethodName)) ∈ zWS := zme 641 rfl rfl
set_option maxRecDepth 100000 in
theorem w642 : (Jvm.Cond.instanceMethod ({ cls := "EditionGrid$Part", name := "stand", desc := "(IIIII)V" } : Jvm.MethodName)) ∈ zWS := zme 642 rfl rfl
set_option maxRecDepth 100000 in
theorem w643 : (Jvm.Cond.selects "EditionGrid$Part" ({ cls := "EditionGrid$Part", name := "stand", desc := "(IIIII)V" } : Jvm.MethodName) ({ cls := "EditionGrid$Part", name := "stand", desc := "(IIIII)V" } : Jvm.MethodName)) ∈ zWS := zme 643 rfl rfl
set_option maxRecDepth 100000 in
theorem w644 : (Jvm.Cond.code ({ cls := "EditionGrid$Part", name := "stand", desc := "(IIIII)V" } : Jvm.MethodName) prog_5_method_2_code (6 : Nat) (Option.none : Option Jvm.ClassFile.FieldType)) ∈ zWS := zme 644 rfl rfl
set_option maxRecDepth 100000 in
theorem w645 : (Jvm.Cond.methodLink "EditionGrid$Planner" (73 : Nat) ({ cls := "EditionGrid$Part", name := "takeLines", desc := "(II)V" } : Jvm.MethodName)) ∈ zWS := zme 645 rfl rfl
set_option maxRecDepth 100000 in
theorem w646 : (Jvm.Cond.instanceMethod ({ cls := "EditionGrid$Part", name := "takeLines", desc := "(II)V" } : Jvm.MethodName)) ∈ zWS := zme 646 rfl rfl
set_option maxRecDepth 100000 in
theorem w647 : (Jvm.Cond.selects "EditionGrid$Part" ({ cls := "EditionGrid$Part", name := "takeLines", desc := "(II)V" } : Jvm.MethodName) ({ cls := "EditionGrid$Part", name := "takeLines", desc := "(II)V" } : Jvm.MethodName)) ∈ zWS := zme 647 rfl rfl
set_option maxRecDepth 100000 in
theorem w648 : (Jvm.Cond.code ({ cls := "EditionGrid$Part", name := "takeLines", desc := "(II)V" } : Jvm.MethodName) prog_5_method_3_code (3 : Nat) (Option.none : Option Jvm.ClassFile.FieldType)) ∈ zWS := zme 648 rfl rfl
set_option maxRecDepth 100000 in
theorem w649 : (Jvm.Cond.methodLink "EditionGrid$Planner" (47 : Nat) ({ cls := "EditionGrid$Planner", name := "putFirstPart", desc := "(LEditionGrid$Story;I)V" } : Jvm.MethodName)) ∈ zWS := zme 649 rfl rfl
set_option maxRecDepth 100000 in
theorem w651 : (Jvm.Cond.instanceMethod ({ cls := "EditionGrid$Planner", name := "putFirstPart", desc := "(LEditionGrid$Story;I)V" } : Jvm.MethodName)) ∈ zWS := zme 651 rfl rfl
set_option maxRecDepth 100000 in
theorem w652 : (Jvm.Cond.code ({ cls := "EditionGrid$Planner", name := "putFirstPart", desc := "(LEditionGrid$Story;I)V" } : Jvm.MethodName) prog_7_method_8_code (7 : Nat) (Option.none : Option Jvm.ClassFile.FieldType)) ∈ zWS := zme 652 rfl rfl
set_option maxRecDepth 100000 in
theorem w653 : (Jvm.Cond.methodLink "EditionGrid$Planner" (119 : Nat) ({ cls := "EditionGrid$Planner", name := "fillPart", desc := "(LEditionGrid$Story;LEditionGrid$Part;I)V" } : Jvm.MethodName)) ∈ zWS := zme 653 rfl rfl
set_option maxRecDepth 100000 in
theorem w655 : (Jvm.Cond.instanceMethod ({ cls := "EditionGrid$Planner", name := "fillPart", desc := "(LEditionGrid$Story;LEditionGrid$Part;I)V" } : Jvm.MethodName)) ∈ zWS := zme 655 rfl rfl
set_option maxRecDepth 100000 in
theorem w656 : (Jvm.Cond.code ({ cls := "EditionGrid$Planner", name := "fillPart", desc := "(LEditionGrid$Story;LEditionGrid$Part;I)V" } : Jvm.MethodName) prog_7_method_10_code (4 : Nat) (Option.none : Option Jvm.ClassFile.FieldType)) ∈ zWS := zme 656 rfl rfl
set_option maxRecDepth 100000 in
theorem w657 : (Jvm.Cond.methodLink "EditionGrid$Planner" (163 : Nat) ({ cls := "EditionGrid$Columns", name := "fill", desc := "(IIJ[I)V" } : Jvm.MethodName)) ∈ zWS := zme 657 rfl rfl
set_option maxRecDepth 100000 in
theorem w658 : (Jvm.Cond.instanceMethod ({ cls := "EditionGrid$Columns", name := "fill", desc := "(IIJ[I)V" } : Jvm.MethodName)) ∈ zWS := zme 658 rfl rfl
set_option maxRecDepth 100000 in
theorem w659 : (Jvm.Cond.selects "EditionGrid$Columns" ({ cls := "EditionGrid$Columns", name := "fill", desc := "(IIJ[I)V" } : Jvm.MethodName) ({ cls := "EditionGrid$Columns", name := "fill", desc := "(IIJ[I)V" } : Jvm.MethodName)) ∈ zWS := zme 659 rfl rfl
set_option maxRecDepth 100000 in
theorem w660 : (Jvm.Cond.code ({ cls := "EditionGrid$Columns", name := "fill", desc := "(IIJ[I)V" } : Jvm.MethodName) prog_3_method_4_code (10 : Nat) (Option.none : Option Jvm.ClassFile.FieldType)) ∈ zWS := zme 660 rfl rfl
set_option maxRecDepth 100000 in
theorem w661 : (Jvm.Cond.methodLink "EditionGrid$Columns" (31 : Nat) ({ cls := "java/util/Arrays", name := "fill", desc := "([II)V" } : Jvm.MethodName)) ∈ zWS := zme 661 rfl rfl
set_option maxRecDepth 100000 in
theorem w662 : (Jvm.Cond.methodLink "EditionGrid$Columns" (37 : Nat) ({ cls := "EditionGrid$Columns", name := "mostFor", desc := "(II)I" } : Jvm.MethodName)) ∈ zWS := zme 662 rfl rfl
set_option maxRecDepth 100000 in
theorem w664 : (Jvm.Cond.instanceMethod ({ cls := "EditionGrid$Columns", name := "mostFor", desc := "(II)I" } : Jvm.MethodName)) ∈ zWS := zme 664 rfl rfl
set_option maxRecDepth 100000 in
theorem w665 : (Jvm.Cond.code ({ cls := "EditionGrid$Columns", name := "mostFor", desc := "(II)I" } : Jvm.MethodName) prog_3_method_5_code (4 : Nat) (Option.some Jvm.ClassFile.FieldType.int)) ∈ zWS := zme 665 rfl rfl
set_option maxRecDepth 100000 in
theorem w667 : (Jvm.Cond.methodLink "EditionGrid$Planner" (123 : Nat) ({ cls := "EditionGrid$Planner", name := "putNothing", desc := "(LEditionGrid$Part;)V" } : Jvm.MethodName)) ∈ zWS := zme 667 rfl rfl
set_option maxRecDepth 100000 in
theorem w669 : (Jvm.Cond.instanceMethod ({ cls := "EditionGrid$Planner", name := "putNothing", desc := "(LEditionGrid$Part;)V" } : Jvm.MethodName)) ∈ zWS := zme 669 rfl rfl
set_option maxRecDepth 100000 in
theorem w670 : (Jvm.Cond.code ({ cls := "EditionGrid$Planner", name := "putNothing", desc := "(LEditionGrid$Part;)V" } : Jvm.MethodName) prog_7_method_11_code (4 : Nat) (Option.none : Option Jvm.ClassFile.FieldType)) ∈ zWS := zme 670 rfl rfl
set_option maxRecDepth 100000 in
theorem w671 : (Jvm.Cond.methodLink "EditionGrid$Planner" (139 : Nat) ({ cls := "EditionGrid$Sheets", name := "put", desc := "(IIII)V" } : Jvm.MethodName)) ∈ zWS := zme 671 rfl rfl
set_option maxRecDepth 100000 in
theorem w672 : (Jvm.Cond.instanceMethod ({ cls := "EditionGrid$Sheets", name := "put", desc := "(IIII)V" } : Jvm.MethodName)) ∈ zWS := zme 672 rfl rfl
set_option maxRecDepth 100000 in
theorem w673 : (Jvm.Cond.selects "EditionGrid$Sheets" ({ cls := "EditionGrid$Sheets", name := "put", desc := "(IIII)V" } : Jvm.MethodName) ({ cls := "EditionGrid$Sheets", name := "put", desc := "(IIII)V" } : Jvm.MethodName)) ∈ zWS := zme 673 rfl rfl
set_option maxRecDepth 100000 in
theorem w674 : (Jvm.Cond.code ({ cls := "EditionGrid$Sheets", name := "put", desc := "(IIII)V" } : Jvm.MethodName) prog_9_method_5_code (5 : Nat) (Option.none : Option Jvm.ClassFile.FieldType)) ∈ zWS := zme 674 rfl rfl
set_option maxRecDepth 100000 in
theorem w675 : (Jvm.Cond.methodLink "EditionGrid$Planner" (149 : Nat) ({ cls := "EditionGrid$Planner", name := "putLines", desc := "(LEditionGrid$Part;III)V" } : Jvm.MethodName)) ∈ zWS := zme 675 rfl rfl
set_option maxRecDepth 100000 in
theorem w677 : (Jvm.Cond.instanceMethod ({ cls := "EditionGrid$Planner", name := "putLines", desc := "(LEditionGrid$Part;III)V" } : Jvm.MethodName)) ∈ zWS := zme 677 rfl rfl
set_option maxRecDepth 100000 in
theorem w678 : (Jvm.Cond.code ({ cls := "EditionGrid$Planner", name := "putLines", desc := "(LEditionGrid$Part;III)V" } : Jvm.MethodName) prog_7_method_12_code (9 : Nat) (Option.none : Option Jvm.ClassFile.FieldType)) ∈ zWS := zme 678 rfl rfl
set_option maxRecDepth 100000 in
theorem w679 : (Jvm.Cond.methodLink "EditionGrid$Planner" (51 : Nat) ({ cls := "EditionGrid$Planner", name := "placeJump", desc := "(LEditionGrid$Story;)Z" } : Jvm.MethodName)) ∈ zWS := zme 679 rfl rfl
set_option maxRecDepth 100000 in
theorem w681 : (Jvm.Cond.instanceMethod ({ cls := "EditionGrid$Planner", name := "placeJump", desc := "(LEditionGrid$Story;)Z" } : Jvm.MethodName)) ∈ zWS := zme 681 rfl rfl
set_option maxRecDepth 100000 in
theorem w682 : (Jvm.Cond.code ({ cls := "EditionGrid$Planner", name := "placeJump", desc := "(LEditionGrid$Story;)Z" } : Jvm.MethodName) prog_7_method_5_code (6 : Nat) (Option.some Jvm.ClassFile.FieldType.boolean)) ∈ zWS := zme 682 rfl rfl
set_option maxRecDepth 100000 in
theorem w683 : (Jvm.Cond.methodLink "EditionGrid$Planner" (101 : Nat) ({ cls := "EditionGrid$Planner", name := "jumpFrom", desc := "(LEditionGrid$Story;IIII)Z" } : Jvm.MethodName)) ∈ zWS := zme 683 rfl rfl
set_option maxRecDepth 100000 in
theorem w685 : (Jvm.Cond.instanceMethod ({ cls := "EditionGrid$Planner", name := "jumpFrom", desc := "(LEditionGrid$Story;IIII)Z" } : Jvm.MethodName)) ∈ zWS := zme 685 rfl rfl
set_option maxRecDepth 100000 in
theorem w686 : (Jvm.Cond.code ({ cls := "EditionGrid$Planner", name := "jumpFrom", desc := "(LEditionGrid$Story;IIII)Z" } : Jvm.MethodName) prog_7_method_6_code (8 : Nat) (Option.some Jvm.ClassFile.FieldType.boolean)) ∈ zWS := zme 686 rfl rfl
set_option maxRecDepth 100000 in
theorem w687 : (Jvm.Cond.methodLink "EditionGrid$Planner" (104 : Nat) ({ cls := "EditionGrid$Sheets", name := "freeHeight", desc := "(IIII)I" } : Jvm.MethodName)) ∈ zWS := zme 687 rfl rfl
set_option maxRecDepth 100000 in
theorem w688 : (Jvm.Cond.instanceMethod ({ cls := "EditionGrid$Sheets", name := "freeHeight", desc := "(IIII)I" } : Jvm.MethodName)) ∈ zWS := zme 688 rfl rfl
set_option maxRecDepth 100000 in
theorem w689 : (Jvm.Cond.selects "EditionGrid$Sheets" ({ cls := "EditionGrid$Sheets", name := "freeHeight", desc := "(IIII)I" } : Jvm.MethodName) ({ cls := "EditionGrid$Sheets", name := "freeHeight", desc := "(IIII)I" } : Jvm.MethodName)) ∈ zWS := zme 689 rfl rfl
set_option maxRecDepth 100000 in
theorem w690 : (Jvm.Cond.code ({ cls := "EditionGrid$Sheets", name := "freeHeight", desc := "(IIII)I" } : Jvm.MethodName) prog_9_method_7_code (7 : Nat) (Option.some Jvm.ClassFile.FieldType.int)) ∈ zWS := zme 690 rfl rfl
set_option maxRecDepth 100000 in
theorem w692 : (Jvm.Cond.methodLink "EditionGrid$Planner" (108 : Nat) ({ cls := "EditionGrid$Planner", name := "greatestSplit", desc := "(LEditionGrid$Story;)I" } : Jvm.MethodName)) ∈ zWS := zme 692 rfl rfl
set_option maxRecDepth 100000 in
theorem w694 : (Jvm.Cond.instanceMethod ({ cls := "EditionGrid$Planner", name := "greatestSplit", desc := "(LEditionGrid$Story;)I" } : Jvm.MethodName)) ∈ zWS := zme 694 rfl rfl
set_option maxRecDepth 100000 in
theorem w695 : (Jvm.Cond.code ({ cls := "EditionGrid$Planner", name := "greatestSplit", desc := "(LEditionGrid$Story;)I" } : Jvm.MethodName) prog_7_method_7_code (5 : Nat) (Option.some Jvm.ClassFile.FieldType.int)) ∈ zWS := zme 695 rfl rfl
set_option maxRecDepth 100000 in
theorem w696 : (Jvm.Cond.methodLink "EditionGrid$Planner" (112 : Nat) ({ cls := "EditionGrid$Part", name := "stand", desc := "(IIIII)V" } : Jvm.MethodName)) ∈ zWS := zme 696 rfl rfl
set_option maxRecDepth 100000 in
theorem w697 : (Jvm.Cond.methodLink "EditionGrid$Planner" (55 : Nat) ({ cls := "EditionGrid$Planner", name := "putSecondPart", desc := "(LEditionGrid$Story;)V" } : Jvm.MethodName)) ∈ zWS := zme 697 rfl rfl
set_option maxRecDepth 100000 in
theorem w699 : (Jvm.Cond.instanceMethod ({ cls := "EditionGrid$Planner", name := "putSecondPart", desc := "(LEditionGrid$Story;)V" } : Jvm.MethodName)) ∈ zWS := zme 699 rfl rfl
set_option maxRecDepth 100000 in
theorem w700 : (Jvm.Cond.code ({ cls := "EditionGrid$Planner", name := "putSecondPart", desc := "(LEditionGrid$Story;)V" } : Jvm.MethodName) prog_7_method_9_code (4 : Nat) (Option.none : Option Jvm.ClassFile.FieldType)) ∈ zWS := zme 700 rfl rfl
set_option maxRecDepth 100000 in
theorem w701 : (Jvm.Cond.methodLink "EditionGridLaw" (59 : Nat) ({ cls := "EditionGrid", name := "held", desc := "(I)I" } : Jvm.MethodName)) ∈ zWS := zme 701 rfl rfl
set_option maxRecDepth 100000 in
theorem w702 : (Jvm.Cond.instanceMethod ({ cls := "EditionGrid", name := "held", desc := "(I)I" } : Jvm.MethodName)) ∈ zWS := zme 702 rfl rfl
set_option maxRecDepth 100000 in
theorem w703 : (Jvm.Cond.selects "EditionGrid" ({ cls := "EditionGrid", name := "held", desc := "(I)I" } : Jvm.MethodName) ({ cls := "EditionGrid", name := "held", desc := "(I)I" } : Jvm.MethodName)) ∈ zWS := zme 703 rfl rfl
set_option maxRecDepth 100000 in
theorem w704 : (Jvm.Cond.code ({ cls := "EditionGrid", name := "held", desc := "(I)I" } : Jvm.MethodName) prog_1_method_10_code (2 : Nat) (Option.some Jvm.ClassFile.FieldType.int)) ∈ zWS := zme 704 rfl rfl
set_option maxRecDepth 100000 in
theorem w705 : (Jvm.Cond.methodLink "EditionGrid" (141 : Nat) ({ cls := "EditionGrid", name := "isPlanned", desc := "(I)Z" } : Jvm.MethodName)) ∈ zWS := zme 705 rfl rfl
set_option maxRecDepth 100000 in
theorem w707 : (Jvm.Cond.instanceMethod ({ cls := "EditionGrid", name := "isPlanned", desc := "(I)Z" } : Jvm.MethodName)) ∈ zWS := zme 707 rfl rfl
set_option maxRecDepth 100000 in
theorem w708 : (Jvm.Cond.code ({ cls := "EditionGrid", name := "isPlanned", desc := "(I)Z" } : Jvm.MethodName) prog_1_method_16_code (2 : Nat) (Option.some Jvm.ClassFile.FieldType.boolean)) ∈ zWS := zme 708 rfl rfl
set_option maxRecDepth 100000 in
theorem w709 : (Jvm.Cond.methodLink "EditionGridLaw" (64 : Nat) ({ cls := "EditionGrid", name := "lines", desc := "(I)I" } : Jvm.MethodName)) ∈ zWS := zme 709 rfl rfl
set_option maxRecDepth 100000 in
theorem w710 : (Jvm.Cond.instanceMethod ({ cls := "EditionGrid", name := "lines", desc := "(I)I" } : Jvm.MethodName)) ∈ zWS := zme 710 rfl rfl
set_option maxRecDepth 100000 in
theorem w711 : (Jvm.Cond.selects "EditionGrid" ({ cls := "EditionGrid", name := "lines", desc := "(I)I" } : Jvm.MethodName) ({ cls := "EditionGrid", name := "lines", desc := "(I)I" } : Jvm.MethodName)) ∈ zWS := zme 711 rfl rfl
set_option maxRecDepth 100000 in
theorem w712 : (Jvm.Cond.code ({ cls := "EditionGrid", name := "lines", desc := "(I)I" } : Jvm.MethodName) prog_1_method_11_code (3 : Nat) (Option.some Jvm.ClassFile.FieldType.int)) ∈ zWS := zme 712 rfl rfl
set_option maxRecDepth 100000 in
theorem w713 : (Jvm.Cond.methodLink "EditionGridLaw" (68 : Nat) ({ cls := "EditionGrid", name := "cost", desc := "(II)I" } : Jvm.MethodName)) ∈ zWS := zme 713 rfl rfl
set_option maxRecDepth 100000 in
theorem w714 : (Jvm.Cond.instanceMethod ({ cls := "EditionGrid", name := "cost", desc := "(II)I" } : Jvm.MethodName)) ∈ zWS := zme 714 rfl rfl
set_option maxRecDepth 100000 in
theorem w715 : (Jvm.Cond.selects "EditionGrid" ({ cls := "EditionGrid", name := "cost", desc := "(II)I" } : Jvm.MethodName) ({ cls := "EditionGrid", name := "cost", desc := "(II)I" } : Jvm.MethodName)) ∈ zWS := zme 715 rfl rfl
set_option maxRecDepth 100000 in
theorem w716 : (Jvm.Cond.code ({ cls := "EditionGrid", name := "cost", desc := "(II)I" } : Jvm.MethodName) prog_1_method_12_code (3 : Nat) (Option.some Jvm.ClassFile.FieldType.int)) ∈ zWS := zme 716 rfl rfl
set_option maxRecDepth 100000 in
theorem w717 : (Jvm.Cond.methodLink "EditionGridLaw" (73 : Nat) ({ cls := "EditionGrid", name := "part", desc := "(III)I" } : Jvm.MethodName)) ∈ zWS := zme 717 rfl rfl
set_option maxRecDepth 100000 in
theorem w718 : (Jvm.Cond.instanceMethod ({ cls := "EditionGrid", name := "part", desc := "(III)I" } : Jvm.MethodName)) ∈ zWS := zme 718 rfl rfl
set_option maxRecDepth 100000 in
theorem w719 : (Jvm.Cond.selects "EditionGrid" ({ cls := "EditionGrid", name := "part", desc := "(III)I" } : Jvm.MethodName) ({ cls := "EditionGrid", name := "part", desc := "(III)I" } : Jvm.MethodName)) ∈ zWS := zme 719 rfl rfl
set_option maxRecDepth 100000 in
theorem w720 : (Jvm.Cond.code ({ cls := "EditionGrid", name := "part", desc := "(III)I" } : Jvm.MethodName) prog_1_method_13_code (4 : Nat) (Option.some Jvm.ClassFile.FieldType.int)) ∈ zWS := zme 720 rfl rfl
set_option maxRecDepth 100000 in
theorem w721 : (Jvm.Cond.methodLink "EditionGrid" (160 : Nat) ({ cls := "EditionGrid$Part", name := "tell", desc := "(I)I" } : Jvm.MethodName)) ∈ zWS := zme 721 rfl rfl
set_option maxRecDepth 100000 in
theorem w722 : (Jvm.Cond.instanceMethod ({ cls := "EditionGrid$Part", name := "tell", desc := "(I)I" } : Jvm.MethodName)) ∈ zWS := zme 722 rfl rfl
set_option maxRecDepth 100000 in
theorem w723 : (Jvm.Cond.selects "EditionGrid$Part" ({ cls := "EditionGrid$Part", name := "tell", desc := "(I)I" } : Jvm.MethodName) ({ cls := "EditionGrid$Part", name := "tell", desc := "(I)I" } : Jvm.MethodName)) ∈ zWS := zme 723 rfl rfl
set_option maxRecDepth 100000 in
theorem w724 : (Jvm.Cond.code ({ cls := "EditionGrid$Part", name := "tell", desc := "(I)I" } : Jvm.MethodName) prog_5_method_4_code (2 : Nat) (Option.some Jvm.ClassFile.FieldType.int)) ∈ zWS := zme 724 rfl rfl
set_option maxRecDepth 100000 in
theorem w725 : (Jvm.Cond.methodLink "EditionGridLaw" (78 : Nat) ({ cls := "EditionGrid", name := "cell", desc := "(III)I" } : Jvm.MethodName)) ∈ zWS := zme 725 rfl rfl
set_option maxRecDepth 100000 in
theorem w726 : (Jvm.Cond.instanceMethod ({ cls := "EditionGrid", name := "cell", desc := "(III)I" } : Jvm.MethodName)) ∈ zWS := zme 726 rfl rfl
set_option maxRecDepth 100000 in
theorem w727 : (Jvm.Cond.selects "EditionGrid" ({ cls := "EditionGrid", name := "cell", desc := "(III)I" } : Jvm.MethodName) ({ cls := "EditionGrid", name := "cell", desc := "(III)I" } : Jvm.MethodName)) ∈ zWS := zme 727 rfl rfl
set_option maxRecDepth 100000 in
theorem w728 : (Jvm.Cond.code ({ cls := "EditionGrid", name := "cell", desc := "(III)I" } : Jvm.MethodName) prog_1_method_14_code (4 : Nat) (Option.some Jvm.ClassFile.FieldType.int)) ∈ zWS := zme 728 rfl rfl
set_option maxRecDepth 100000 in
theorem w729 : (Jvm.Cond.methodLink "EditionGrid" (166 : Nat) ({ cls := "EditionGrid$Sheets", name := "has", desc := "(III)Z" } : Jvm.MethodName)) ∈ zWS := zme 729 rfl rfl
set_option maxRecDepth 100000 in
theorem w730 : (Jvm.Cond.instanceMethod ({ cls := "EditionGrid$Sheets", name := "has", desc := "(III)Z" } : Jvm.MethodName)) ∈ zWS := zme 730 rfl rfl
set_option maxRecDepth 100000 in
theorem w731 : (Jvm.Cond.selects "EditionGrid$Sheets" ({ cls := "EditionGrid$Sheets", name := "has", desc := "(III)Z" } : Jvm.MethodName) ({ cls := "EditionGrid$Sheets", name := "has", desc := "(III)Z" } : Jvm.MethodName)) ∈ zWS := zme 731 rfl rfl
set_option maxRecDepth 100000 in
theorem w732 : (Jvm.Cond.code ({ cls := "EditionGrid$Sheets", name := "has", desc := "(III)Z" } : Jvm.MethodName) prog_9_method_3_code (4 : Nat) (Option.some Jvm.ClassFile.FieldType.boolean)) ∈ zWS := zme 732 rfl rfl
set_option maxRecDepth 100000 in
theorem w733 : (Jvm.Cond.methodLink "EditionGrid" (170 : Nat) ({ cls := "EditionGrid$Sheets", name := "codeAt", desc := "(III)I" } : Jvm.MethodName)) ∈ zWS := zme 733 rfl rfl
set_option maxRecDepth 100000 in
theorem w734 : (Jvm.Cond.instanceMethod ({ cls := "EditionGrid$Sheets", name := "codeAt", desc := "(III)I" } : Jvm.MethodName)) ∈ zWS := zme 734 rfl rfl
set_option maxRecDepth 100000 in
theorem w735 : (Jvm.Cond.selects "EditionGrid$Sheets" ({ cls := "EditionGrid$Sheets", name := "codeAt", desc := "(III)I" } : Jvm.MethodName) ({ cls := "EditionGrid$Sheets", name := "codeAt", desc := "(III)I" } : Jvm.MethodName)) ∈ zWS := zme 735 rfl rfl
set_option maxRecDepth 100000 in
theorem w736 : (Jvm.Cond.code ({ cls := "EditionGrid$Sheets", name := "codeAt", desc := "(III)I" } : Jvm.MethodName) prog_9_method_4_code (4 : Nat) (Option.some Jvm.ClassFile.FieldType.int)) ∈ zWS := zme 736 rfl rfl
set_option maxRecDepth 100000 in
theorem w737 : (Jvm.Cond.methodLink "EditionGridLaw" (81 : Nat) ({ cls := "EditionGrid", name := "ink", desc := "(IIII)I" } : Jvm.MethodName)) ∈ zWS := zme 737 rfl rfl
set_option maxRecDepth 100000 in
theorem w738 : (Jvm.Cond.instanceMethod ({ cls := "EditionGrid", name := "ink", desc := "(IIII)I" } : Jvm.MethodName)) ∈ zWS := zme 738 rfl rfl
set_option maxRecDepth 100000 in
theorem w739 : (Jvm.Cond.selects "EditionGrid" ({ cls := "EditionGrid", name := "ink", desc := "(IIII)I" } : Jvm.MethodName) ({ cls := "EditionGrid", name := "ink", desc := "(IIII)I" } : Jvm.MethodName)) ∈ zWS := zme 739 rfl rfl
set_option maxRecDepth 100000 in
theorem w740 : (Jvm.Cond.code ({ cls := "EditionGrid", name := "ink", desc := "(IIII)I" } : Jvm.MethodName) prog_1_method_15_code (7 : Nat) (Option.some Jvm.ClassFile.FieldType.int)) ∈ zWS := zme 740 rfl rfl
set_option maxRecDepth 100000 in
theorem w741 : (Jvm.Cond.methodLink "EditionGrid" (173 : Nat) ({ cls := "EditionGrid$Painter", name := "seen", desc := "(LEditionGrid$Story;III)I" } : Jvm.MethodName)) ∈ zWS := zme 741 rfl rfl
set_option maxRecDepth 100000 in
theorem w742 : (Jvm.Cond.instanceMethod ({ cls := "EditionGrid$Painter", name := "seen", desc := "(LEditionGrid$Story;III)I" } : Jvm.MethodName)) ∈ zWS := zme 742 rfl rfl
set_option maxRecDepth 100000 in
theorem w743 : (Jvm.Cond.selects "EditionGrid$Painter" ({ cls := "EditionGrid$Painter", name := "seen", desc := "(LEditionGrid$Story;III)I" } : Jvm.MethodName) ({ cls := "EditionGrid$Painter", name := "seen", desc := "(LEditionGrid$Story;III)I" } : Jvm.MethodName)) ∈ zWS := zme 743 rfl rfl
set_option maxRecDepth 100000 in
theorem w744 : (Jvm.Cond.code ({ cls := "EditionGrid$Painter", name := "seen", desc := "(LEditionGrid$Story;III)I" } : Jvm.MethodName) prog_4_method_3_code (6 : Nat) (Option.some Jvm.ClassFile.FieldType.int)) ∈ zWS := zme 744 rfl rfl
set_option maxRecDepth 100000 in
theorem w745 : (Jvm.Cond.methodLink "EditionGrid$Painter" (46 : Nat) ({ cls := "EditionGrid$Painter", name := "rowUnit", desc := "(IIIII)I" } : Jvm.MethodName)) ∈ zWS := zme 745 rfl rfl
set_option maxRecDepth 100000 in
theorem w747 : (Jvm.Cond.instanceMethod ({ cls := "EditionGrid$Painter", name := "rowUnit", desc := "(IIIII)I" } : Jvm.MethodName)) ∈ zWS := zme 747 rfl rfl
set_option maxRecDepth 100000 in
theorem w748 : (Jvm.Cond.code ({ cls := "EditionGrid$Painter", name := "rowUnit", desc := "(IIIII)I" } : Jvm.MethodName) prog_4_method_6_code (11 : Nat) (Option.some Jvm.ClassFile.FieldType.int)) ∈ zWS := zme 748 rfl rfl
set_option maxRecDepth 100000 in
theorem w749 : (Jvm.Cond.methodLink "EditionGrid$Painter" (77 : Nat) ({ cls := "EditionGrid$Painter", name := "widthOf", desc := "(C)I" } : Jvm.MethodName)) ∈ zWS := zme 749 rfl rfl
set_option maxRecDepth 100000 in
theorem w751 : (Jvm.Cond.instanceMethod ({ cls := "EditionGrid$Painter", name := "widthOf", desc := "(C)I" } : Jvm.MethodName)) ∈ zWS := zme 751 rfl rfl
set_option maxRecDepth 100000 in
theorem w752 : (Jvm.Cond.code ({ cls := "EditionGrid$Painter", name := "widthOf", desc := "(C)I" } : Jvm.MethodName) prog_4_method_9_code (2 : Nat) (Option.some Jvm.ClassFile.FieldType.int)) ∈ zWS := zme 752 rfl rfl
set_option maxRecDepth 100000 in
theorem w754 : (Jvm.Cond.methodLink "EditionGrid$Painter" (53 : Nat) ({ cls := "EditionGrid$Painter", name := "signUnit", desc := "(III)I" } : Jvm.MethodName)) ∈ zWS := zme 754 rfl rfl
set_option maxRecDepth 100000 in
theorem w755 : (Jvm.Cond.static ({ cls := "EditionGrid$Painter", name := "signUnit", desc := "(III)I" } : Jvm.MethodName)) ∈ zWS := zme 755 rfl rfl
set_option maxRecDepth 100000 in
theorem w756 : (Jvm.Cond.code ({ cls := "EditionGrid$Painter", name := "signUnit", desc := "(III)I" } : Jvm.MethodName) prog_4_method_4_code (3 : Nat) (Option.some Jvm.ClassFile.FieldType.int)) ∈ zWS := zme 756 rfl rfl
set_option maxRecDepth 100000 in
theorem w757 : (Jvm.Cond.methodLink "EditionGrid$Painter" (57 : Nat) ({ cls := "EditionGrid$Painter", name := "lineUnit", desc := "(LEditionGrid$Story;II)I" } : Jvm.MethodName)) ∈ zWS := zme 757 rfl rfl
set_option maxRecDepth 100000 in
theorem w759 : (Jvm.Cond.instanceMethod ({ cls := "EditionGrid$Painter", name := "lineUnit", desc := "(LEditionGrid$Story;II)I" } : Jvm.MethodName)) ∈ zWS := zme 759 rfl rfl
set_option maxRecDepth 100000 in
theorem w760 : (Jvm.Cond.code ({ cls := "EditionGrid$Painter", name := "lineUnit", desc := "(LEditionGrid$Story;II)I" } : Jvm.MethodName) prog_4_method_5_code (10 : Nat) (Option.some Jvm.ClassFile.FieldType.int)) ∈ zWS := zme 760 rfl rfl
set_option maxRecDepth 100000 in
theorem w761 : (Jvm.Cond.methodLink "EditionGrid$Painter" (70 : Nat) ({ cls := "EditionGrid$Painter", name := "unitsOf", desc := "(II)I" } : Jvm.MethodName)) ∈ zWS := zme 761 rfl rfl
set_option maxRecDepth 100000 in
theorem w763 : (Jvm.Cond.instanceMethod ({ cls := "EditionGrid$Painter", name := "unitsOf", desc := "(II)I" } : Jvm.MethodName)) ∈ zWS := zme 763 rfl rfl
set_option maxRecDepth 100000 in
theorem w764 : (Jvm.Cond.code ({ cls := "EditionGrid$Painter", name := "unitsOf", desc := "(II)I" } : Jvm.MethodName) prog_4_method_7_code (5 : Nat) (Option.some Jvm.ClassFile.FieldType.int)) ∈ zWS := zme 764 rfl rfl
set_option maxRecDepth 100000 in
theorem w765 : (Jvm.Cond.methodLink "EditionGrid$Painter" (74 : Nat) ({ cls := "EditionGrid$Painter", name := "gapsOf", desc := "(II)I" } : Jvm.MethodName)) ∈ zWS := zme 765 rfl rfl
set_option maxRecDepth 100000 in
theorem w767 : (Jvm.Cond.instanceMethod ({ cls := "EditionGrid$Painter", name := "gapsOf", desc := "(II)I" } : Jvm.MethodName)) ∈ zWS := zme 767 rfl rfl
set_option maxRecDepth 100000 in
theorem w768 : (Jvm.Cond.code ({ cls := "EditionGrid$Painter", name := "gapsOf", desc := "(II)I" } : Jvm.MethodName) prog_4_method_8_code (5 : Nat) (Option.some Jvm.ClassFile.FieldType.int)) ∈ zWS := zme 768 rfl rfl
set_option maxRecDepth 100000 in
theorem w769 : (Jvm.Cond.methodLink "EditionGridLaw" (9 : Nat) ({ cls := "EditionGridLaw", name := "cell", desc := "([II)I" } : Jvm.MethodName)) ∈ zWS := zme 769 rfl rfl
set_option maxRecDepth 100000 in
theorem w770 : (Jvm.Cond.static ({ cls := "EditionGridLaw", name := "cell", desc := "([II)I" } : Jvm.MethodName)) ∈ zWS := zme 770 rfl rfl
set_option maxRecDepth 100000 in
theorem w771 : (Jvm.Cond.code ({ cls := "EditionGridLaw", name := "cell", desc := "([II)I" } : Jvm.MethodName) method_2_code (2 : Nat) (Option.some Jvm.ClassFile.FieldType.int)) ∈ zWS := zme 771 rfl rfl
set_option maxRecDepth 100000 in
theorem w772 : (Jvm.Cond.classLink "EditionGridLaw" (18 : Nat) "EditionGridModel") ∈ zWS := zme 772 rfl rfl
set_option maxRecDepth 100000 in
theorem w773 : (Jvm.Cond.instantiable "EditionGridModel" (46 : Nat)) ∈ zWS := zme 773 rfl rfl
set_option maxRecDepth 100000 in
theorem w774 : (Jvm.Cond.methodLink "EditionGridLaw" (20 : Nat) ({ cls := "EditionGridModel", name := "<init>", desc := "(III)V" } : Jvm.MethodName)) ∈ zWS := zme 774 rfl rfl
set_option maxRecDepth 100000 in
theorem w775 : (Jvm.Cond.instanceMethod ({ cls := "EditionGridModel", name := "<init>", desc := "(III)V" } : Jvm.MethodName)) ∈ zWS := zme 775 rfl rfl
set_option maxRecDepth 100000 in
theorem w776 : (Jvm.Cond.code ({ cls := "EditionGridModel", name := "<init>", desc := "(III)V" } : Jvm.MethodName) prog_12_method_1_code (5 : Nat) (Option.none : Option Jvm.ClassFile.FieldType)) ∈ zWS := zme 776 rfl rfl
set_option maxRecDepth 100000 in
theorem w777 : (Jvm.Cond.methodLink "EditionGridModel" (1 : Nat) ({ cls := "java/lang/Object", name := "<init>", desc := "()V" } : Jvm.MethodName)) ∈ zWS := zme 777 rfl rfl
set_option maxRecDepth 100000 in
theorem w778 : (Jvm.Cond.fieldLink "EditionGridModel" (114 : Nat) "EditionGridModel" "columns" "I") ∈ zWS := zme 778 rfl rfl
set_option maxRecDepth 100000 in
theorem w779 : (Jvm.Cond.fieldLink "EditionGridModel" (117 : Nat) "EditionGridModel" "rows" "I") ∈ zWS := zme 779 rfl rfl
set_option maxRecDepth 100000 in
theorem w780 : (Jvm.Cond.fieldLink "EditionGridModel" (120 : Nat) "EditionGridModel" "wide" "I") ∈ zWS := zme 780 rfl rfl
set_option maxRecDepth 100000 in
theorem w781 : (Jvm.Cond.fieldLink "EditionGridModel" (7 : Nat) "EditionGridModel" "metrics" "[I") ∈ zWS := zme 781 rfl rfl
set_option maxRecDepth 100000 in
theorem w782 : (Jvm.Cond.fieldLink "EditionGridModel" (13 : Nat) "EditionGridModel" "widths" "[I") ∈ zWS := zme 782 rfl rfl
set_option maxRecDepth 100000 in
theorem w783 : (Jvm.Cond.fieldLink "EditionGridModel" (137 : Nat) "EditionGridModel" "patterns" "I") ∈ zWS := zme 783 rfl rfl
set_option maxRecDepth 100000 in
theorem w784 : (Jvm.Cond.fieldLink "EditionGridModel" (16 : Nat) "EditionGridModel" "patternSize" "[I") ∈ zWS := zme 784 rfl rfl
set_option maxRecDepth 100000 in
theorem w785 : (Jvm.Cond.fieldLink "EditionGridModel" (19 : Nat) "EditionGridModel" "patternSigns" "[I") ∈ zWS := zme 785 rfl rfl
set_option maxRecDepth 100000 in
theorem w786 : (Jvm.Cond.fieldLink "EditionGridModel" (22 : Nat) "EditionGridModel" "patternValues" "[I") ∈ zWS := zme 786 rfl rfl
set_option maxRecDepth 100000 in
theorem w787 : (Jvm.Cond.fieldLink "EditionGridModel" (25 : Nat) "EditionGridModel" "dotted" "[I") ∈ zWS := zme 787 rfl rfl
set_option maxRecDepth 100000 in
theorem w788 : (Jvm.Cond.fieldLink "EditionGridModel" (28 : Nat) "EditionGridModel" "valued" "[I") ∈ zWS := zme 788 rfl rfl
set_option maxRecDepth 100000 in
theorem w789 : (Jvm.Cond.fieldLink "EditionGridModel" (31 : Nat) "EditionGridModel" "text" "[I") ∈ zWS := zme 789 rfl rfl
set_option maxRecDepth 100000 in
theorem w790 : (Jvm.Cond.fieldLink "EditionGridModel" (156 : Nat) "EditionGridModel" "size" "I") ∈ zWS := zme 790 rfl rfl
set_option maxRecDepth 100000 in
theorem w791 : (Jvm.Cond.fieldLink "EditionGridModel" (183 : Nat) "EditionGridModel" "stories" "I") ∈ zWS := zme 791 rfl rfl
set_option maxRecDepth 100000 in
theorem w792 : (Jvm.Cond.fieldLink "EditionGridModel" (34 : Nat) "EditionGridModel" "urgent" "[I") ∈ zWS := zme 792 rfl rfl
set_option maxRecDepth 100000 in
theorem w793 : (Jvm.Cond.fieldLink "EditionGridModel" (37 : Nat) "EditionGridModel" "figureColumns" "[I") ∈ zWS := zme 793 rfl rfl
set_option maxRecDepth 100000 in
theorem w794 : (Jvm.Cond.fieldLink "EditionGridModel" (40 : Nat) "EditionGridModel" "figureRows" "[I") ∈ zWS := zme 794 rfl rfl
set_option maxRecDepth 100000 in
theorem w795 : (Jvm.Cond.fieldLink "EditionGridModel" (43 : Nat) "EditionGridModel" "paragraphs" "[I") ∈ zWS := zme 795 rfl rfl
set_option maxRecDepth 100000 in
theorem w796 : (Jvm.Cond.fieldLink "EditionGridModel" (46 : Nat) "EditionGridModel" "letters" "[I") ∈ zWS := zme 796 rfl rfl
set_option maxRecDepth 100000 in
theorem w797 : (Jvm.Cond.fieldLink "EditionGridModel" (49 : Nat) "EditionGridModel" "wordEnds" "[I") ∈ zWS := zme 797 rfl rfl
set_option maxRecDepth 100000 in
theorem w798 : (Jvm.Cond.fieldLink "EditionGridModel" (52 : Nat) "EditionGridModel" "words" "[I") ∈ zWS := zme 798 rfl rfl
set_option maxRecDepth 100000 in
theorem w799 : (Jvm.Cond.fieldLink "EditionGridModel" (55 : Nat) "EditionGridModel" "letterCount" "[I") ∈ zWS := zme 799 rfl rfl
set_option maxRecDepth 100000 in
theorem w800 : (Jvm.Cond.fieldLink "EditionGridModel" (159 : Nat) "EditionGridModel" "at" "I") ∈ zWS := zme 800 rfl rfl
set_option maxRecDepth 100000 in
theorem w801 : (Jvm.Cond.fieldLink "EditionGridModel" (58 : Nat) "EditionGridModel" "wrong" "I") ∈ zWS := zme 801 rfl rfl
set_option maxRecDepth 100000 in
theorem w802 : (Jvm.Cond.fieldLink "EditionGridModel" (189 : Nat) "EditionGridModel" "planned" "Z") ∈ zWS := zme 802 rfl rfl
set_option maxRecDepth 100000 in
theorem w803 : (Jvm.Cond.fieldLink "EditionGridModel" (62 : Nat) "EditionGridModel" "heldFor" "[I") ∈ zWS := zme 803 rfl rfl
set_option maxRecDepth 100000 in
theorem w804 : (Jvm.Cond.fieldLink "EditionGridModel" (65 : Nat) "EditionGridModel" "lineCount" "[I") ∈ zWS := zme 804 rfl rfl
set_option maxRecDepth 100000 in
theorem w805 : (Jvm.Cond.fieldLink "EditionGridModel" (68 : Nat) "EditionGridModel" "lineParagraph" "[I") ∈ zWS := zme 805 rfl rfl
set_option maxRecDepth 100000 in
theorem w806 : (Jvm.Cond.fieldLink "EditionGridModel" (71 : Nat) "EditionGridModel" "lineFrom" "[I") ∈ zWS := zme 806 rfl rfl
set_option maxRecDepth 100000 in
theorem w807 : (Jvm.Cond.fieldLink "EditionGridModel" (74 : Nat) "EditionGridModel" "lineTo" "[I") ∈ zWS := zme 807 rfl rfl
set_option maxRecDepth 100000 in
theorem w808 : (Jvm.Cond.fieldLink "EditionGridModel" (77 : Nat) "EditionGridModel" "costs" "[I") ∈ zWS := zme 808 rfl rfl
set_option maxRecDepth 100000 in
theorem w809 : (Jvm.Cond.fieldLink "EditionGridModel" (80 : Nat) "EditionGridModel" "mayEnd" "[Z") ∈ zWS := zme 809 rfl rfl
set_option maxRecDepth 100000 in
theorem w810 : (Jvm.Cond.fieldLink "EditionGridModel" (84 : Nat) "EditionGridModel" "ends" "[Z") ∈ zWS := zme 810 rfl rfl
set_option maxRecDepth 100000 in
theorem w811 : (Jvm.Cond.fieldLink "EditionGridModel" (87 : Nat) "EditionGridModel" "best" "[I") ∈ zWS := zme 811 rfl rfl
set_option maxRecDepth 100000 in
theorem w812 : (Jvm.Cond.fieldLink "EditionGridModel" (90 : Nat) "EditionGridModel" "follow" "[I") ∈ zWS := zme 812 rfl rfl
set_option maxRecDepth 100000 in
theorem w813 : (Jvm.Cond.fieldLink "EditionGridModel" (93 : Nat) "EditionGridModel" "placed" "[Z") ∈ zWS := zme 813 rfl rfl
set_option maxRecDepth 100000 in
theorem w814 : (Jvm.Cond.fieldLink "EditionGridModel" (96 : Nat) "EditionGridModel" "parts" "[I") ∈ zWS := zme 814 rfl rfl
set_option maxRecDepth 100000 in
theorem w815 : (Jvm.Cond.fieldLink "EditionGridModel" (99 : Nat) "EditionGridModel" "grid" "[I") ∈ zWS := zme 815 rfl rfl
set_option maxRecDepth 100000 in
theorem w816 : (Jvm.Cond.fieldLink "EditionGridModel" (102 : Nat) "EditionGridModel" "rooms" "[I") ∈ zWS := zme 816 rfl rfl
set_option maxRecDepth 100000 in
theorem w817 : (Jvm.Cond.fieldLink "EditionGridModel" (105 : Nat) "EditionGridModel" "takes" "[I") ∈ zWS := zme 817 rfl rfl
set_option maxRecDepth 100000 in
theorem w818 : (Jvm.Cond.fieldLink "EditionGridModel" (108 : Nat) "EditionGridModel" "reach" "[Z") ∈ zWS := zme 818 rfl rfl
set_option maxRecDepth 100000 in
theorem w819 : (Jvm.Cond.fieldLink "EditionGridModel" (111 : Nat) "EditionGridModel" "heights" "[I") ∈ zWS := zme 819 rfl rfl
set_option maxRecDepth 100000 in
theorem w820 : (Jvm.Cond.fieldLink "EditionGridModel" (222 : Nat) "EditionGridModel" "foundPage" "I") ∈ zWS := zme 820 rfl rfl
set_option maxRecDepth 100000 in
theorem w821 : (Jvm.Cond.fieldLink "EditionGridModel" (225 : Nat) "EditionGridModel" "foundX" "I") ∈ zWS := zme 821 rfl rfl
set_option maxRecDepth 100000 in
theorem w822 : (Jvm.Cond.fieldLink "EditionGridModel" (228 : Nat) "EditionGridModel" "foundY" "I") ∈ zWS := zme 822 rfl rfl
set_option maxRecDepth 100000 in
theorem w823 : (Jvm.Cond.fieldLink "EditionGridModel" (231 : Nat) "EditionGridModel" "foundK" "I") ∈ zWS := zme 823 rfl rfl
set_option maxRecDepth 100000 in
theorem w917 : (Jvm.Cond.arrayClass Jvm.ClassFile.FieldType.boolean) ∈ zWS := zme 917 rfl rfl
set_option maxRecDepth 100000 in
theorem w918 : (Jvm.Cond.methodLink "EditionGridLaw" (25 : Nat) ({ cls := "EditionGridModel", name := "metric", desc := "(CI)Z" } : Jvm.MethodName)) ∈ zWS := zme 918 rfl rfl
set_option maxRecDepth 100000 in
theorem w919 : (Jvm.Cond.instanceMethod ({ cls := "EditionGridModel", name := "metric", desc := "(CI)Z" } : Jvm.MethodName)) ∈ zWS := zme 919 rfl rfl
set_option maxRecDepth 100000 in
theorem w920 : (Jvm.Cond.selects "EditionGridModel" ({ cls := "EditionGridModel", name := "metric", desc := "(CI)Z" } : Jvm.MethodName) ({ cls := "EditionGridModel", name := "metric", desc := "(CI)Z" } : Jvm.MethodName)) ∈ zWS := zme 920 rfl rfl
set_option maxRecDepth 100000 in
theorem w921 : (Jvm.Cond.code ({ cls := "EditionGridModel", name := "metric", desc := "(CI)Z" } : Jvm.MethodName) prog_12_method_3_code (3 : Nat) (Option.some Jvm.ClassFile.FieldType.boolean)) ∈ zWS := zme 921 rfl rfl
set_option maxRecDepth 100000 in
theorem w922 : (Jvm.Cond.methodLink "EditionGridModel" (123 : Nat) ({ cls := "EditionGridModel", name := "isLetter", desc := "(I)Z" } : Jvm.MethodName)) ∈ zWS := zme 922 rfl rfl
set_option maxRecDepth 100000 in
theorem w923 : (Jvm.Cond.static ({ cls := "EditionGridModel", name := "isLetter", desc := "(I)Z" } : Jvm.MethodName)) ∈ zWS := zme 923 rfl rfl
set_option maxRecDepth 100000 in
theorem w924 : (Jvm.Cond.code ({ cls := "EditionGridModel", name := "isLetter", desc := "(I)Z" } : Jvm.MethodName) prog_12_method_2_code (1 : Nat) (Option.some Jvm.ClassFile.FieldType.boolean)) ∈ zWS := zme 924 rfl rfl
set_option maxRecDepth 100000 in
theorem w925 : (Jvm.Cond.methodLink "EditionGridLaw" (32 : Nat) ({ cls := "EditionGridModel", name := "pattern", desc := "(JIJ)I" } : Jvm.MethodName)) ∈ zWS := zme 925 rfl rfl
set_option maxRecDepth 100000 in
theorem w926 : (Jvm.Cond.instanceMethod ({ cls := "EditionGridModel", name := "pattern", desc := "(JIJ)I" } : Jvm.MethodName)) ∈ zWS := zme 926 rfl rfl
set_option maxRecDepth 100000 in
theorem w927 : (Jvm.Cond.selects "EditionGridModel" ({ cls := "EditionGridModel", name := "pattern", desc := "(JIJ)I" } : Jvm.MethodName) ({ cls := "EditionGridModel", name := "pattern", desc := "(JIJ)I" } : Jvm.MethodName)) ∈ zWS := zme 927 rfl rfl
set_option maxRecDepth 100000 in
theorem w928 : (Jvm.Cond.code ({ cls := "EditionGridModel", name := "pattern", desc := "(JIJ)I" } : Jvm.MethodName) prog_12_method_7_code (8 : Nat) (Option.some Jvm.ClassFile.FieldType.int)) ∈ zWS := zme 928 rfl rfl
set_option maxRecDepth 100000 in
theorem w929 : (Jvm.Cond.methodLink "EditionGridModel" (133 : Nat) ({ cls := "EditionGridModel", name := "isSigns", desc := "(JI)Z" } : Jvm.MethodName)) ∈ zWS := zme 929 rfl rfl
set_option maxRecDepth 100000 in
theorem w930 : (Jvm.Cond.static ({ cls := "EditionGridModel", name := "isSigns", desc := "(JI)Z" } : Jvm.MethodName)) ∈ zWS := zme 930 rfl rfl
set_option maxRecDepth 100000 in
theorem w931 : (Jvm.Cond.code ({ cls := "EditionGridModel", name := "isSigns", desc := "(JI)Z" } : Jvm.MethodName) prog_12_method_5_code (7 : Nat) (Option.some Jvm.ClassFile.FieldType.boolean)) ∈ zWS := zme 931 rfl rfl
set_option maxRecDepth 100000 in
theorem w932 : (Jvm.Cond.methodLink "EditionGridModel" (129 : Nat) ({ cls := "EditionGridModel", name := "byteOf", desc := "(JII)I" } : Jvm.MethodName)) ∈ zWS := zme 932 rfl rfl
set_option maxRecDepth 100000 in
theorem w933 : (Jvm.Cond.static ({ cls := "EditionGridModel", name := "byteOf", desc := "(JII)I" } : Jvm.MethodName)) ∈ zWS := zme 933 rfl rfl
set_option maxRecDepth 100000 in
theorem w934 : (Jvm.Cond.code ({ cls := "EditionGridModel", name := "byteOf", desc := "(JII)I" } : Jvm.MethodName) prog_12_method_4_code (4 : Nat) (Option.some Jvm.ClassFile.FieldType.int)) ∈ zWS := zme 934 rfl rfl
set_option maxRecDepth 100000 in
theorem w935 : (Jvm.Cond.constantLong "EditionGridModel" (127 : Nat) (255 : Int64)) ∈ zWS := zme 935 rfl rfl
set_option maxRecDepth 100000 in
theorem w936 : (Jvm.Cond.methodLink "EditionGridModel" (140 : Nat) ({ cls := "EditionGridModel", name := "isPattern", desc := "(IJI)Z" } : Jvm.MethodName)) ∈ zWS := zme 936 rfl rfl
set_option maxRecDepth 100000 in
theorem w938 : (Jvm.Cond.instanceMethod ({ cls := "EditionGridModel", name := "isPattern", desc := "(IJI)Z" } : Jvm.MethodName)) ∈ zWS := zme 938 rfl rfl
set_option maxRecDepth 100000 in
theorem w939 : (Jvm.Cond.code ({ cls := "EditionGridModel", name := "isPattern", desc := "(IJI)Z" } : Jvm.MethodName) prog_12_method_6_code (7 : Nat) (Option.some Jvm.ClassFile.FieldType.boolean)) ∈ zWS := zme 939 rfl rfl
set_option maxRecDepth 100000 in
theorem w940 : (Jvm.Cond.methodLink "EditionGridLaw" (37 : Nat) ({ cls := "EditionGridModel", name := "cuts", desc := "(JI)I" } : Jvm.MethodName)) ∈ zWS := zme 940 rfl rfl
set_option maxRecDepth 100000 in
theorem w941 : (Jvm.Cond.instanceMethod ({ cls := "EditionGridModel", name := "cuts", desc := "(JI)I" } : Jvm.MethodName)) ∈ zWS := zme 941 rfl rfl
set_option maxRecDepth 100000 in
theorem w942 : (Jvm.Cond.selects "EditionGridModel" ({ cls := "EditionGridModel", name := "cuts", desc := "(JI)I" } : Jvm.MethodName) ({ cls := "EditionGridModel", name := "cuts", desc := "(JI)I" } : Jvm.MethodName)) ∈ zWS := zme 942 rfl rfl
set_option maxRecDepth 100000 in
theorem w943 : (Jvm.Cond.code ({ cls := "EditionGridModel", name := "cuts", desc := "(JI)I" } : Jvm.MethodName) prog_12_method_11_code (6 : Nat) (Option.some Jvm.ClassFile.FieldType.int)) ∈ zWS := zme 943 rfl rfl
set_option maxRecDepth 100000 in
theorem w944 : (Jvm.Cond.methodLink "EditionGridModel" (148 : Nat) ({ cls := "EditionGridModel", name := "value", desc := "(I)V" } : Jvm.MethodName)) ∈ zWS := zme 944 rfl rfl
set_option maxRecDepth 100000 in
theorem w946 : (Jvm.Cond.instanceMethod ({ cls := "EditionGridModel", name := "value", desc := "(I)V" } : Jvm.MethodName)) ∈ zWS := zme 946 rfl rfl
set_option maxRecDepth 100000 in
theorem w947 : (Jvm.Cond.code ({ cls := "EditionGridModel", name := "value", desc := "(I)V" } : Jvm.MethodName) prog_12_method_9_code (7 : Nat) (Option.none : Option Jvm.ClassFile.FieldType)) ∈ zWS := zme 947 rfl rfl
set_option maxRecDepth 100000 in
theorem w948 : (Jvm.Cond.methodLink "EditionGridModel" (144 : Nat) ({ cls := "EditionGridModel", name := "stands", desc := "(III)Z" } : Jvm.MethodName)) ∈ zWS := zme 948 rfl rfl
set_option maxRecDepth 100000 in
theorem w950 : (Jvm.Cond.instanceMethod ({ cls := "EditionGridModel", name := "stands", desc := "(III)Z" } : Jvm.MethodName)) ∈ zWS := zme 950 rfl rfl
set_option maxRecDepth 100000 in
theorem w951 : (Jvm.Cond.code ({ cls := "EditionGridModel", name := "stands", desc := "(III)Z" } : Jvm.MethodName) prog_12_method_8_code (6 : Nat) (Option.some Jvm.ClassFile.FieldType.boolean)) ∈ zWS := zme 951 rfl rfl
set_option maxRecDepth 100000 in
theorem w952 : (Jvm.Cond.methodLink "EditionGridModel" (152 : Nat) ({ cls := "EditionGridModel", name := "isCut", desc := "(II)Z" } : Jvm.MethodName)) ∈ zWS := zme 952 rfl rfl
set_option maxRecDepth 100000 in
theorem w954 : (Jvm.Cond.instanceMethod ({ cls := "EditionGridModel", name := "isCut", desc := "(II)Z" } : Jvm.MethodName)) ∈ zWS := zme 954 rfl rfl
set_option maxRecDepth 100000 in
theorem w955 : (Jvm.Cond.code ({ cls := "EditionGridModel", name := "isCut", desc := "(II)Z" } : Jvm.MethodName) prog_12_method_10_code (3 : Nat) (Option.some Jvm.ClassFile.FieldType.boolean)) ∈ zWS := zme 955 rfl rfl
set_option maxRecDepth 100000 in
theorem w956 : (Jvm.Cond.methodLink "EditionGridLaw" (41 : Nat) ({ cls := "EditionGridModel", name := "feed", desc := "(JI)I" } : Jvm.MethodName)) ∈ zWS := zme 956 rfl rfl
set_option maxRecDepth 100000 in
theorem w957 : (Jvm.Cond.instanceMethod ({ cls := "EditionGridModel", name := "feed", desc := "(JI)I" } : Jvm.MethodName)) ∈ zWS := zme 957 rfl rfl
set_option maxRecDepth 100000 in
theorem w958 : (Jvm.Cond.selects "EditionGridModel" ({ cls := "EditionGridModel", name := "feed", desc := "(JI)I" } : Jvm.MethodName) ({ cls := "EditionGridModel", name := "feed", desc := "(JI)I" } : Jvm.MethodName)) ∈ zWS := zme 958 rfl rfl
set_option maxRecDepth 100000 in
theorem w959 : (Jvm.Cond.code ({ cls := "EditionGridModel", name := "feed", desc := "(JI)I" } : Jvm.MethodName) prog_12_method_12_code (6 : Nat) (Option.some Jvm.ClassFile.FieldType.int)) ∈ zWS := zme 959 rfl rfl
set_option maxRecDepth 100000 in
theorem w960 : (Jvm.Cond.methodLink "EditionGridLaw" (46 : Nat) ({ cls := "EditionGridModel", name := "clear", desc := "()I" } : Jvm.MethodName)) ∈ zWS := zme 960 rfl rfl
set_option maxRecDepth 100000 in
theorem w961 : (Jvm.Cond.instanceMethod ({ cls := "EditionGridModel", name := "clear", desc := "()I" } : Jvm.MethodName)) ∈ zWS := zme 961 rfl rfl
set_option maxRecDepth 100000 in
theorem w962 : (Jvm.Cond.selects "EditionGridModel" ({ cls := "EditionGridModel", name := "clear", desc := "()I" } : Jvm.MethodName) ({ cls := "EditionGridModel", name := "clear", desc := "()I" } : Jvm.MethodName)) ∈ zWS := zme 962 rfl rfl
set_option maxRecDepth 100000 in
theorem w963 : (Jvm.Cond.code ({ cls := "EditionGridModel", name := "clear", desc := "()I" } : Jvm.MethodName) prog_12_method_13_code (2 : Nat) (Option.some Jvm.ClassFile.FieldType.int)) ∈ zWS := zme 963 rfl rfl
set_option maxRecDepth 100000 in
theorem w964 : (Jvm.Cond.methodLink "EditionGridLaw" (50 : Nat) ({ cls := "EditionGridModel", name := "read", desc := "()I" } : Jvm.MethodName)) ∈ zWS := zme 964 rfl rfl
set_option maxRecDepth 100000 in
theorem w965 : (Jvm.Cond.instanceMethod ({ cls := "EditionGridModel", name := "read", desc := "()I" } : Jvm.MethodName)) ∈ zWS := zme 965 rfl rfl
set_option maxRecDepth 100000 in
theorem w966 : (Jvm.Cond.selects "EditionGridModel" ({ cls := "EditionGridModel", name := "read", desc := "()I" } : Jvm.MethodName) ({ cls := "EditionGridModel", name := "read", desc := "()I" } : Jvm.MethodName)) ∈ zWS := zme 966 rfl rfl
set_option maxRecDepth 100000 in
theorem w967 : (Jvm.Cond.code ({ cls := "EditionGridModel", name := "read", desc := "()I" } : Jvm.MethodName) prog_12_method_23_code (2 : Nat) (Option.some Jvm.ClassFile.FieldType.int)) ∈ zWS := zme 967 rfl rfl
set_option maxRecDepth 100000 in
theorem w968 : (Jvm.Cond.methodLink "EditionGridModel" (193 : Nat) ({ cls := "EditionGridModel", name := "free", desc := "()V" } : Jvm.MethodName)) ∈ zWS := zme 968 rfl rfl
set_option maxRecDepth 100000 in
theorem w970 : (Jvm.Cond.instanceMethod ({ cls := "EditionGridModel", name := "free", desc := "()V" } : Jvm.MethodName)) ∈ zWS := zme 970 rfl rfl
set_option maxRecDepth 100000 in
theorem w971 : (Jvm.Cond.code ({ cls := "EditionGridModel", name := "free", desc := "()V" } : Jvm.MethodName) prog_12_method_22_code (2 : Nat) (Option.none : Option Jvm.ClassFile.FieldType)) ∈ zWS := zme 971 rfl rfl
set_option maxRecDepth 100000 in
theorem w972 : (Jvm.Cond.methodLink "EditionGridModel" (196 : Nat) ({ cls := "EditionGridModel", name := "readStory", desc := "()V" } : Jvm.MethodName)) ∈ zWS := zme 972 rfl rfl
set_option maxRecDepth 100000 in
theorem w974 : (Jvm.Cond.instanceMethod ({ cls := "EditionGridModel", name := "readStory", desc := "()V" } : Jvm.MethodName)) ∈ zWS := zme 974 rfl rfl
set_option maxRecDepth 100000 in
theorem w975 : (Jvm.Cond.code ({ cls := "EditionGridModel", name := "readStory", desc := "()V" } : Jvm.MethodName) prog_12_method_21_code (4 : Nat) (Option.none : Option Jvm.ClassFile.FieldType)) ∈ zWS := zme 975 rfl rfl
set_option maxRecDepth 100000 in
theorem w976 : (Jvm.Cond.methodLink "EditionGridModel" (162 : Nat) ({ cls := "EditionGridModel", name := "here", desc := "()I" } : Jvm.MethodName)) ∈ zWS := zme 976 rfl rfl
set_option maxRecDepth 100000 in
theorem w978 : (Jvm.Cond.instanceMethod ({ cls := "EditionGridModel", name := "here", desc := "()I" } : Jvm.MethodName)) ∈ zWS := zme 978 rfl rfl
set_option maxRecDepth 100000 in
theorem w979 : (Jvm.Cond.code ({ cls := "EditionGridModel", name := "here", desc := "()I" } : Jvm.MethodName) prog_12_method_14_code (1 : Nat) (Option.some Jvm.ClassFile.FieldType.int)) ∈ zWS := zme 979 rfl rfl
set_option maxRecDepth 100000 in
theorem w980 : (Jvm.Cond.methodLink "EditionGridModel" (166 : Nat) ({ cls := "EditionGridModel", name := "fail", desc := "()V" } : Jvm.MethodName)) ∈ zWS := zme 980 rfl rfl
set_option maxRecDepth 100000 in
theorem w982 : (Jvm.Cond.instanceMethod ({ cls := "EditionGridModel", name := "fail", desc := "()V" } : Jvm.MethodName)) ∈ zWS := zme 982 rfl rfl
set_option maxRecDepth 100000 in
theorem w983 : (Jvm.Cond.code ({ cls := "EditionGridModel", name := "fail", desc := "()V" } : Jvm.MethodName) prog_12_method_15_code (1 : Nat) (Option.none : Option Jvm.ClassFile.FieldType)) ∈ zWS := zme 983 rfl rfl
set_option maxRecDepth 100000 in
theorem w984 : (Jvm.Cond.methodLink "EditionGridModel" (172 : Nat) ({ cls := "EditionGridModel", name := "take", desc := "(II)I" } : Jvm.MethodName)) ∈ zWS := zme 984 rfl rfl
set_option maxRecDepth 100000 in
theorem w986 : (Jvm.Cond.instanceMethod ({ cls := "EditionGridModel", name := "take", desc := "(II)I" } : Jvm.MethodName)) ∈ zWS := zme 986 rfl rfl
set_option maxRecDepth 100000 in
theorem w987 : (Jvm.Cond.code ({ cls := "EditionGridModel", name := "take", desc := "(II)I" } : Jvm.MethodName) prog_12_method_16_code (4 : Nat) (Option.some Jvm.ClassFile.FieldType.int)) ∈ zWS := zme 987 rfl rfl
set_option maxRecDepth 100000 in
theorem w988 : (Jvm.Cond.methodLink "EditionGridModel" (179 : Nat) ({ cls := "EditionGridModel", name := "readWords", desc := "(II)V" } : Jvm.MethodName)) ∈ zWS := zme 988 rfl rfl
set_option maxRecDepth 100000 in
theorem w990 : (Jvm.Cond.instanceMethod ({ cls := "EditionGridModel", name := "readWords", desc := "(II)V" } : Jvm.MethodName)) ∈ zWS := zme 990 rfl rfl
set_option maxRecDepth 100000 in
theorem w991 : (Jvm.Cond.code ({ cls := "EditionGridModel", name := "readWords", desc := "(II)V" } : Jvm.MethodName) prog_12_method_18_code (5 : Nat) (Option.none : Option Jvm.ClassFile.FieldType)) ∈ zWS := zme 991 rfl rfl
set_option maxRecDepth 100000 in
theorem w992 : (Jvm.Cond.methodLink "EditionGridModel" (169 : Nat) ({ cls := "EditionGridModel", name := "readWord", desc := "(I)V" } : Jvm.MethodName)) ∈ zWS := zme 992 rfl rfl
set_option maxRecDepth 100000 in
theorem w994 : (Jvm.Cond.instanceMethod ({ cls := "EditionGridModel", name := "readWord", desc := "(I)V" } : Jvm.MethodName)) ∈ zWS := zme 994 rfl rfl
set_option maxRecDepth 100000 in
theorem w995 : (Jvm.Cond.code ({ cls := "EditionGridModel", name := "readWord", desc := "(I)V" } : Jvm.MethodName) prog_12_method_17_code (3 : Nat) (Option.none : Option Jvm.ClassFile.FieldType)) ∈ zWS := zme 995 rfl rfl
set_option maxRecDepth 100000 in
theorem w996 : (Jvm.Cond.methodLink "EditionGridModel" (186 : Nat) ({ cls := "EditionGridModel", name := "readPart", desc := "(I)V" } : Jvm.MethodName)) ∈ zWS := zme 996 rfl rfl
set_option maxRecDepth 100000 in
theorem w998 : (Jvm.Cond.instanceMethod ({ cls := "EditionGridModel", name := "readPart", desc := "(I)V" } : Jvm.MethodName)) ∈ zWS := zme 998 rfl rfl
set_option maxRecDepth 100000 in
theorem w999 : (Jvm.Cond.code ({ cls := "EditionGridModel", name := "readPart", desc := "(I)V" } : Jvm.MethodName) prog_12_method_20_code (2 : Nat) (Option.none : Option Jvm.ClassFile.FieldType)) ∈ zWS := zme 999 rfl rfl
set_option maxRecDepth 100000 in
theorem w1000 : (Jvm.Cond.methodLink "EditionGridModel" (176 : Nat) ({ cls := "EditionGridModel", name := "readFigure", desc := "(I)V" } : Jvm.MethodName)) ∈ zWS := zme 1000 rfl rfl
set_option maxRecDepth 100000 in
theorem w1002 : (Jvm.Cond.instanceMethod ({ cls := "EditionGridModel", name := "readFigure", desc := "(I)V" } : Jvm.MethodName)) ∈ zWS := zme 1002 rfl rfl
set_option maxRecDepth 100000 in
theorem w1003 : (Jvm.Cond.code ({ cls := "EditionGridModel", name := "readFigure", desc := "(I)V" } : Jvm.MethodName) prog_12_method_19_code (5 : Nat) (Option.none : Option Jvm.ClassFile.FieldType)) ∈ zWS := zme 1003 rfl rfl
set_option maxRecDepth 100000 in
theorem w1004 : (Jvm.Cond.methodLink "EditionGridLaw" (54 : Nat) ({ cls := "EditionGridModel", name := "fault", desc := "()I" } : Jvm.MethodName)) ∈ zWS := zme 1004 rfl rfl
set_option maxRecDepth 100000 in
theorem w1005 : (Jvm.Cond.instanceMethod ({ cls := "EditionGridModel", name := "fault", desc := "()I" } : Jvm.MethodName)) ∈ zWS := zme 1005 rfl rfl
set_option maxRecDepth 100000 in
theorem w1006 : (Jvm.Cond.selects "EditionGridModel" ({ cls := "EditionGridModel", name := "fault", desc := "()I" } : Jvm.MethodName) ({ cls := "EditionGridModel", name := "fault", desc := "()I" } : Jvm.MethodName)) ∈ zWS := zme 1006 rfl rfl
set_option maxRecDepth 100000 in
theorem w1007 : (Jvm.Cond.code ({ cls := "EditionGridModel", name := "fault", desc := "()I" } : Jvm.MethodName) prog_12_method_24_code (1 : Nat) (Option.some Jvm.ClassFile.FieldType.int)) ∈ zWS := zme 1007 rfl rfl
set_option maxRecDepth 100000 in
theorem w1008 : (Jvm.Cond.methodLink "EditionGridLaw" (58 : Nat) ({ cls := "EditionGridModel", name := "plan", desc := "()I" } : Jvm.MethodName)) ∈ zWS := zme 1008 rfl rfl
set_option maxRecDepth 100000 in
theorem w1009 : (Jvm.Cond.instanceMethod ({ cls := "EditionGridModel", name := "plan", desc := "()I" } : Jvm.MethodName)) ∈ zWS := zme 1009 rfl rfl
set_option maxRecDepth 100000 in
theorem w1010 : (Jvm.Cond.selects "EditionGridModel" ({ cls := "EditionGridModel", name := "plan", desc := "()I" } : Jvm.MethodName) ({ cls := "EditionGridModel", name := "plan", desc := "()I" } : Jvm.MethodName)) ∈ zWS := zme 1010 rfl rfl
set_option maxRecDepth 100000 in
theorem w1011 : (Jvm.Cond.code ({ cls := "EditionGridModel", name := "plan", desc := "()I" } : Jvm.MethodName) prog_12_method_45_code (3 : Nat) (Option.some Jvm.ClassFile.FieldType.int)) ∈ zWS := zme 1011 rfl rfl
set_option maxRecDepth 100000 in
theorem w1012 : (Jvm.Cond.methodLink "EditionGridModel" (269 : Nat) ({ cls := "EditionGridModel", name := "layLines", desc := "(I)V" } : Jvm.MethodName)) ∈ zWS := zme 1012 rfl rfl
set_option maxRecDepth 100000 in
theorem w1014 : (Jvm.Cond.instanceMethod ({ cls := "EditionGridModel", name := "layLines", desc := "(I)V" } : Jvm.MethodName)) ∈ zWS := zme 1014 rfl rfl
set_option maxRecDepth 100000 in
theorem w1015 : (Jvm.Cond.code ({ cls := "EditionGridModel", name := "layLines", desc := "(I)V" } : Jvm.MethodName) prog_12_method_31_code (6 : Nat) (Option.none : Option Jvm.ClassFile.FieldType)) ∈ zWS := zme 1015 rfl rfl
set_option maxRecDepth 100000 in
theorem w1016 : (Jvm.Cond.methodLink "EditionGridModel" (212 : Nat) ({ cls := "EditionGridModel", name := "breakUp", desc := "(I)V" } : Jvm.MethodName)) ∈ zWS := zme 1016 rfl rfl
set_option maxRecDepth 100000 in
theorem w1018 : (Jvm.Cond.instanceMethod ({ cls := "EditionGridModel", name := "breakUp", desc := "(I)V" } : Jvm.MethodName)) ∈ zWS := zme 1018 rfl rfl
set_option maxRecDepth 100000 in
theorem w1019 : (Jvm.Cond.code ({ cls := "EditionGridModel", name := "breakUp", desc := "(I)V" } : Jvm.MethodName) prog_12_method_30_code (7 : Nat) (Option.none : Option Jvm.ClassFile.FieldType)) ∈ zWS := zme 1019 rfl rfl
set_option maxRecDepth 100000 in
theorem w1020 : (Jvm.Cond.methodLink "EditionGridModel" (206 : Nat) ({ cls := "EditionGridModel", name := "markEnds", desc := "(I)V" } : Jvm.MethodName)) ∈ zWS := zme 1020 rfl rfl
set_option maxRecDepth 100000 in
theorem w1022 : (Jvm.Cond.instanceMethod ({ cls := "EditionGridModel", name := "markEnds", desc := "(I)V" } : Jvm.MethodName)) ∈ zWS := zme 1022 rfl rfl
set_option maxRecDepth 100000 in
theorem w1023 : (Jvm.Cond.code ({ cls := "EditionGridModel", name := "markEnds", desc := "(I)V" } : Jvm.MethodName) prog_12_method_25_code (6 : Nat) (Option.none : Option Jvm.ClassFile.FieldType)) ∈ zWS := zme 1023 rfl rfl
set_option maxRecDepth 100000 in
theorem w1024 : (Jvm.Cond.methodLink "EditionGridModel" (209 : Nat) ({ cls := "EditionGridModel", name := "costOf", desc := "(III)I" } : Jvm.MethodName)) ∈ zWS := zme 1024 rfl rfl
set_option maxRecDepth 100000 in
theorem w1026 : (Jvm.Cond.instanceMethod ({ cls := "EditionGridModel", name := "costOf", desc := "(III)I" } : Jvm.MethodName)) ∈ zWS := zme 1026 rfl rfl
set_option maxRecDepth 100000 in
theorem w1027 : (Jvm.Cond.code ({ cls := "EditionGridModel", name := "costOf", desc := "(III)I" } : Jvm.MethodName) prog_12_method_29_code (5 : Nat) (Option.some Jvm.ClassFile.FieldType.int)) ∈ zWS := zme 1027 rfl rfl
set_option maxRecDepth 100000 in
theorem w1028 : (Jvm.Cond.methodLink "EditionGridModel" (272 : Nat) ({ cls := "EditionGridModel", name := "placeStory", desc := "(I)V" } : Jvm.MethodName)) ∈ zWS := zme 1028 rfl rfl
set_option maxRecDepth 100000 in
theorem w1030 : (Jvm.Cond.instanceMethod ({ cls := "EditionGridModel", name := "placeStory", desc := "(I)V" } : Jvm.MethodName)) ∈ zWS := zme 1030 rfl rfl
set_option maxRecDepth 100000 in
theorem w1031 : (Jvm.Cond.code ({ cls := "EditionGridModel", name := "placeStory", desc := "(I)V" } : Jvm.MethodName) prog_12_method_44_code (3 : Nat) (Option.none : Option Jvm.ClassFile.FieldType)) ∈ zWS := zme 1031 rfl rfl
set_option maxRecDepth 100000 in
theorem w1032 : (Jvm.Cond.methodLink "EditionGridModel" (255 : Nat) ({ cls := "EditionGridModel", name := "findWhole", desc := "(IIIIII)Z" } : Jvm.MethodName)) ∈ zWS := zme 1032 rfl rfl
set_option maxRecDepth 100000 in
theorem w1034 : (Jvm.Cond.instanceMethod ({ cls := "EditionGridModel", name := "findWhole", desc := "(IIIIII)Z" } : Jvm.MethodName)) ∈ zWS := zme 1034 rfl rfl
set_option maxRecDepth 100000 in
theorem w1035 : (Jvm.Cond.code ({ cls := "EditionGridModel", name := "findWhole", desc := "(IIIIII)Z" } : Jvm.MethodName) prog_12_method_37_code (10 : Nat) (Option.some Jvm.ClassFile.FieldType.boolean)) ∈ zWS := zme 1035 rfl rfl
set_option maxRecDepth 100000 in
theorem w1036 : (Jvm.Cond.methodLink "EditionGridModel" (234 : Nat) ({ cls := "EditionGridModel", name := "setRooms", desc := "(IIIII)Z" } : Jvm.MethodName)) ∈ zWS := zme 1036 rfl rfl
set_option maxRecDepth 100000 in
theorem w1038 : (Jvm.Cond.instanceMethod ({ cls := "EditionGridModel", name := "setRooms", desc := "(IIIII)Z" } : Jvm.MethodName)) ∈ zWS := zme 1038 rfl rfl
set_option maxRecDepth 100000 in
theorem w1039 : (Jvm.Cond.code ({ cls := "EditionGridModel", name := "setRooms", desc := "(IIIII)Z" } : Jvm.MethodName) prog_12_method_33_code (8 : Nat) (Option.some Jvm.ClassFile.FieldType.boolean)) ∈ zWS := zme 1039 rfl rfl
set_option maxRecDepth 100000 in
theorem w1040 : (Jvm.Cond.methodLink "EditionGridModel" (237 : Nat) ({ cls := "EditionGridModel", name := "fills", desc := "(IIII)Z" } : Jvm.MethodName)) ∈ zWS := zme 1040 rfl rfl
set_option maxRecDepth 100000 in
theorem w1042 : (Jvm.Cond.instanceMethod ({ cls := "EditionGridModel", name := "fills", desc := "(IIII)Z" } : Jvm.MethodName)) ∈ zWS := zme 1042 rfl rfl
set_option maxRecDepth 100000 in
theorem w1043 : (Jvm.Cond.code ({ cls := "EditionGridModel", name := "fills", desc := "(IIII)Z" } : Jvm.MethodName) prog_12_method_34_code (11 : Nat) (Option.some Jvm.ClassFile.FieldType.boolean)) ∈ zWS := zme 1043 rfl rfl
set_option maxRecDepth 100000 in
theorem w1044 : (Jvm.Cond.methodLink "EditionGridModel" (215 : Nat) ({ cls := "EditionGridModel", name := "isBad", desc := "(II)Z" } : Jvm.MethodName)) ∈ zWS := zme 1044 rfl rfl
set_option maxRecDepth 100000 in
theorem w1046 : (Jvm.Cond.instanceMethod ({ cls := "EditionGridModel", name := "isBad", desc := "(II)Z" } : Jvm.MethodName)) ∈ zWS := zme 1046 rfl rfl
set_option maxRecDepth 100000 in
theorem w1047 : (Jvm.Cond.code ({ cls := "EditionGridModel", name := "isBad", desc := "(II)Z" } : Jvm.MethodName) prog_12_method_32_code (6 : Nat) (Option.some Jvm.ClassFile.FieldType.boolean)) ∈ zWS := zme 1047 rfl rfl
set_option maxRecDepth 100000 in
theorem w1048 : (Jvm.Cond.methodLink "EditionGridModel" (241 : Nat) ({ cls := "EditionGridModel", name := "findOn", desc := "(III)Z" } : Jvm.MethodName)) ∈ zWS := zme 1048 rfl rfl
set_option maxRecDepth 100000 in
theorem w1050 : (Jvm.Cond.instanceMethod ({ cls := "EditionGridModel", name := "findOn", desc := "(III)Z" } : Jvm.MethodName)) ∈ zWS := zme 1050 rfl rfl
set_option maxRecDepth 100000 in
theorem w1051 : (Jvm.Cond.code ({ cls := "EditionGridModel", name := "findOn", desc := "(III)Z" } : Jvm.MethodName) prog_12_method_36_code (6 : Nat) (Option.some Jvm.ClassFile.FieldType.boolean)) ∈ zWS := zme 1051 rfl rfl
set_option maxRecDepth 100000 in
theorem w1052 : (Jvm.Cond.methodLink "EditionGridModel" (218 : Nat) ({ cls := "EditionGridModel", name := "isFree", desc := "(IIIII)Z" } : Jvm.MethodName)) ∈ zWS := zme 1052 rfl rfl
set_option maxRecDepth 100000 in
theorem w1054 : (Jvm.Cond.instanceMethod ({ cls := "EditionGridModel", name := "isFree", desc := "(IIIII)Z" } : Jvm.MethodName)) ∈ zWS := zme 1054 rfl rfl
set_option maxRecDepth 100000 in
theorem w1055 : (Jvm.Cond.code ({ cls := "EditionGridModel", name := "isFree", desc := "(IIIII)Z" } : Jvm.MethodName) prog_12_method_35_code (9 : Nat) (Option.some Jvm.ClassFile.FieldType.boolean)) ∈ zWS := zme 1055 rfl rfl
set_option maxRecDepth 100000 in
theorem w1056 : (Jvm.Cond.methodLink "EditionGridModel" (259 : Nat) ({ cls := "EditionGridModel", name := "takePlace", desc := "(IIIIIII)V" } : Jvm.MethodName)) ∈ zWS := zme 1056 rfl rfl
set_option maxRecDepth 100000 in
theorem w1058 : (Jvm.Cond.instanceMethod ({ cls := "EditionGridModel", name := "takePlace", desc := "(IIIIIII)V" } : Jvm.MethodName)) ∈ zWS := zme 1058 rfl rfl
set_option maxRecDepth 100000 in
theorem w1059 : (Jvm.Cond.code ({ cls := "EditionGridModel", name := "takePlace", desc := "(IIIIIII)V" } : Jvm.MethodName) prog_12_method_39_code (14 : Nat) (Option.none : Option Jvm.ClassFile.FieldType)) ∈ zWS := zme 1059 rfl rfl
set_option maxRecDepth 100000 in
theorem w1060 : (Jvm.Cond.methodLink "EditionGridModel" (244 : Nat) ({ cls := "EditionGridModel", name := "tell", desc := "(IIIII)V" } : Jvm.MethodName)) ∈ zWS := zme 1060 rfl rfl
set_option maxRecDepth 100000 in
theorem w1062 : (Jvm.Cond.instanceMethod ({ cls := "EditionGridModel", name := "tell", desc := "(IIIII)V" } : Jvm.MethodName)) ∈ zWS := zme 1062 rfl rfl
set_option maxRecDepth 100000 in
theorem w1063 : (Jvm.Cond.code ({ cls := "EditionGridModel", name := "tell", desc := "(IIIII)V" } : Jvm.MethodName) prog_12_method_38_code (8 : Nat) (Option.none : Option Jvm.ClassFile.FieldType)) ∈ zWS := zme 1063 rfl rfl
set_option maxRecDepth 100000 in
theorem w1064 : (Jvm.Cond.methodLink "EditionGridModel" (266 : Nat) ({ cls := "EditionGridModel", name := "findJump", desc := "(I)Z" } : Jvm.MethodName)) ∈ zWS := zme 1064 rfl rfl
set_option maxRecDepth 100000 in
theorem w1066 : (Jvm.Cond.instanceMethod ({ cls := "EditionGridModel", name := "findJump", desc := "(I)Z" } : Jvm.MethodName)) ∈ zWS := zme 1066 rfl rfl
set_option maxRecDepth 100000 in
theorem w1067 : (Jvm.Cond.code ({ cls := "EditionGridModel", name := "findJump", desc := "(I)Z" } : Jvm.MethodName) prog_12_method_43_code (6 : Nat) (Option.some Jvm.ClassFile.FieldType.boolean)) ∈ zWS := zme 1067 rfl rfl
set_option maxRecDepth 100000 in
theorem w1068 : (Jvm.Cond.methodLink "EditionGridModel" (263 : Nat) ({ cls := "EditionGridModel", name := "jumps", desc := "(IIIII)Z" } : Jvm.MethodName)) ∈ zWS := zme 1068 rfl rfl
set_option maxRecDepth 100000 in
theorem w1070 : (Jvm.Cond.instanceMethod ({ cls := "EditionGridModel", name := "jumps", desc := "(IIIII)Z" } : Jvm.MethodName)) ∈ zWS := zme 1070 rfl rfl
set_option maxRecDepth 100000 in
theorem w1071 : (Jvm.Cond.code ({ cls := "EditionGridModel", name := "jumps", desc := "(IIIII)Z" } : Jvm.MethodName) prog_12_method_42_code (11 : Nat) (Option.some Jvm.ClassFile.FieldType.boolean)) ∈ zWS := zme 1071 rfl rfl
set_option maxRecDepth 100000 in
theorem w1072 : (Jvm.Cond.methodLink "EditionGridModel" (248 : Nat) ({ cls := "EditionGridModel", name := "freeRows", desc := "(IIII)I" } : Jvm.MethodName)) ∈ zWS := zme 1072 rfl rfl
set_option maxRecDepth 100000 in
theorem w1074 : (Jvm.Cond.instanceMethod ({ cls := "EditionGridModel", name := "freeRows", desc := "(IIII)I" } : Jvm.MethodName)) ∈ zWS := zme 1074 rfl rfl
set_option maxRecDepth 100000 in
theorem w1075 : (Jvm.Cond.code ({ cls := "EditionGridModel", name := "freeRows", desc := "(IIII)I" } : Jvm.MethodName) prog_12_method_40_code (6 : Nat) (Option.some Jvm.ClassFile.FieldType.int)) ∈ zWS := zme 1075 rfl rfl
set_option maxRecDepth 100000 in
theorem w1076 : (Jvm.Cond.methodLink "EditionGridModel" (252 : Nat) ({ cls := "EditionGridModel", name := "firstLines", desc := "(III)I" } : Jvm.MethodName)) ∈ zWS := zme 1076 rfl rfl
set_option maxRecDepth 100000 in
theorem w1078 : (Jvm.Cond.instanceMethod ({ cls := "EditionGridModel", name := "firstLines", desc := "(III)I" } : Jvm.MethodName)) ∈ zWS := zme 1078 rfl rfl
set_option maxRecDepth 100000 in
theorem w1079 : (Jvm.Cond.code ({ cls := "EditionGridModel", name := "firstLines", desc := "(III)I" } : Jvm.MethodName) prog_12_method_41_code (6 : Nat) (Option.some Jvm.ClassFile.FieldType.int)) ∈ zWS := zme 1079 rfl rfl
set_option maxRecDepth 100000 in
theorem w1080 : (Jvm.Cond.methodLink "EditionGridLaw" (63 : Nat) ({ cls := "EditionGridModel", name := "held", desc := "(I)I" } : Jvm.MethodName)) ∈ zWS := zme 1080 rfl rfl
set_option maxRecDepth 100000 in
theorem w1081 : (Jvm.Cond.instanceMethod ({ cls := "EditionGridModel", name := "held", desc := "(I)I" } : Jvm.MethodName)) ∈ zWS := zme 1081 rfl rfl
set_option maxRecDepth 100000 in
theorem w1082 : (Jvm.Cond.selects "EditionGridModel" ({ cls := "EditionGridModel", name := "held", desc := "(I)I" } : Jvm.MethodName) ({ cls := "EditionGridModel", name := "held", desc := "(I)I" } : Jvm.MethodName)) ∈ zWS := zme 1082 rfl rfl
set_option maxRecDepth 100000 in
theorem w1083 : (Jvm.Cond.code ({ cls := "EditionGridModel", name := "held", desc := "(I)I" } : Jvm.MethodName) prog_12_method_47_code (2 : Nat) (Option.some Jvm.ClassFile.FieldType.int)) ∈ zWS := zme 1083 rfl rfl
set_option maxRecDepth 100000 in
theorem w1084 : (Jvm.Cond.methodLink "EditionGridModel" (275 : Nat) ({ cls := "EditionGridModel", name := "isPlanned", desc := "(I)Z" } : Jvm.MethodName)) ∈ zWS := zme 1084 rfl rfl
set_option maxRecDepth 100000 in
theorem w1086 : (Jvm.Cond.instanceMethod ({ cls := "EditionGridModel", name := "isPlanned", desc := "(I)Z" } : Jvm.MethodName)) ∈ zWS := zme 1086 rfl rfl
set_option maxRecDepth 100000 in
theorem w1087 : (Jvm.Cond.code ({ cls := "EditionGridModel", name := "isPlanned", desc := "(I)Z" } : Jvm.MethodName) prog_12_method_46_code (2 : Nat) (Option.some Jvm.ClassFile.FieldType.boolean)) ∈ zWS := zme 1087 rfl rfl
set_option maxRecDepth 100000 in
theorem w1088 : (Jvm.Cond.methodLink "EditionGridLaw" (67 : Nat) ({ cls := "EditionGridModel", name := "lines", desc := "(I)I" } : Jvm.MethodName)) ∈ zWS := zme 1088 rfl rfl
set_option maxRecDepth 100000 in
theorem w1089 : (Jvm.Cond.instanceMethod ({ cls := "EditionGridModel", name := "lines", desc := "(I)I" } : Jvm.MethodName)) ∈ zWS := zme 1089 rfl rfl
set_option maxRecDepth 100000 in
theorem w1090 : (Jvm.Cond.selects "EditionGridModel" ({ cls := "EditionGridModel", name := "lines", desc := "(I)I" } : Jvm.MethodName) ({ cls := "EditionGridModel", name := "lines", desc := "(I)I" } : Jvm.MethodName)) ∈ zWS := zme 1090 rfl rfl
set_option maxRecDepth 100000 in
theorem w1091 : (Jvm.Cond.code ({ cls := "EditionGridModel", name := "lines", desc := "(I)I" } : Jvm.MethodName) prog_12_method_48_code (2 : Nat) (Option.some Jvm.ClassFile.FieldType.int)) ∈ zWS := zme 1091 rfl rfl
set_option maxRecDepth 100000 in
theorem w1092 : (Jvm.Cond.methodLink "EditionGridLaw" (72 : Nat) ({ cls := "EditionGridModel", name := "cost", desc := "(II)I" } : Jvm.MethodName)) ∈ zWS := zme 1092 rfl rfl
set_option maxRecDepth 100000 in
theorem w1093 : (Jvm.Cond.instanceMethod ({ cls := "EditionGridModel", name := "cost", desc := "(II)I" } : Jvm.MethodName)) ∈ zWS := zme 1093 rfl rfl
set_option maxRecDepth 100000 in
theorem w1094 : (Jvm.Cond.selects "EditionGridModel" ({ cls := "EditionGridModel", name := "cost", desc := "(II)I" } : Jvm.MethodName) ({ cls := "EditionGridModel", name := "cost", desc := "(II)I" } : Jvm.MethodName)) ∈ zWS := zme 1094 rfl rfl
set_option maxRecDepth 100000 in
theorem w1095 : (Jvm.Cond.code ({ cls := "EditionGridModel", name := "cost", desc := "(II)I" } : Jvm.MethodName) prog_12_method_49_code (3 : Nat) (Option.some Jvm.ClassFile.FieldType.int)) ∈ zWS := zme 1095 rfl rfl
set_option maxRecDepth 100000 in
theorem w1096 : (Jvm.Cond.methodLink "EditionGridLaw" (77 : Nat) ({ cls := "EditionGridModel", name := "part", desc := "(III)I" } : Jvm.MethodName)) ∈ zWS := zme 1096 rfl rfl
set_option maxRecDepth 100000 in
theorem w1097 : (Jvm.Cond.instanceMethod ({ cls := "EditionGridModel", name := "part", desc := "(III)I" } : Jvm.MethodName)) ∈ zWS := zme 1097 rfl rfl
set_option maxRecDepth 100000 in
theorem w1098 : (Jvm.Cond.selects "EditionGridModel" ({ cls := "EditionGridModel", name := "part", desc := "(III)I" } : Jvm.MethodName) ({ cls := "EditionGridModel", name := "part", desc := "(III)I" } : Jvm.MethodName)) ∈ zWS := zme 1098 rfl rfl
set_option maxRecDepth 100000 in
theorem w1099 : (Jvm.Cond.code ({ cls := "EditionGridModel", name := "part", desc := "(III)I" } : Jvm.MethodName) prog_12_method_50_code (5 : Nat) (Option.some Jvm.ClassFile.FieldType.int)) ∈ zWS := zme 1099 rfl rfl
set_option maxRecDepth 100000 in
theorem w1100 : (Jvm.Cond.methodLink "EditionGridLaw" (80 : Nat) ({ cls := "EditionGridModel", name := "cell", desc := "(III)I" } : Jvm.MethodName)) ∈ zWS := zme 1100 rfl rfl
set_option maxRecDepth 100000 in
theorem w1101 : (Jvm.Cond.instanceMethod ({ cls := "EditionGridModel", name := "cell", desc := "(III)I" } : Jvm.MethodName)) ∈ zWS := zme 1101 rfl rfl
set_option maxRecDepth 100000 in
theorem w1102 : (Jvm.Cond.selects "EditionGridModel" ({ cls := "EditionGridModel", name := "cell", desc := "(III)I" } : Jvm.MethodName) ({ cls := "EditionGridModel", name := "cell", desc := "(III)I" } : Jvm.MethodName)) ∈ zWS := zme 1102 rfl rfl
set_option maxRecDepth 100000 in
theorem w1103 : (Jvm.Cond.code ({ cls := "EditionGridModel", name := "cell", desc := "(III)I" } : Jvm.MethodName) prog_12_method_52_code (4 : Nat) (Option.some Jvm.ClassFile.FieldType.int)) ∈ zWS := zme 1103 rfl rfl
set_option maxRecDepth 100000 in
theorem w1104 : (Jvm.Cond.methodLink "EditionGridModel" (278 : Nat) ({ cls := "EditionGridModel", name := "isCell", desc := "(III)Z" } : Jvm.MethodName)) ∈ zWS := zme 1104 rfl rfl
set_option maxRecDepth 100000 in
theorem w1106 : (Jvm.Cond.instanceMethod ({ cls := "EditionGridModel", name := "isCell", desc := "(III)Z" } : Jvm.MethodName)) ∈ zWS := zme 1106 rfl rfl
set_option maxRecDepth 100000 in
theorem w1107 : (Jvm.Cond.code ({ cls := "EditionGridModel", name := "isCell", desc := "(III)Z" } : Jvm.MethodName) prog_12_method_51_code (4 : Nat) (Option.some Jvm.ClassFile.FieldType.boolean)) ∈ zWS := zme 1107 rfl rfl
set_option maxRecDepth 100000 in
theorem w1108 : (Jvm.Cond.methodLink "EditionGridLaw" (85 : Nat) ({ cls := "EditionGridModel", name := "ink", desc := "(IIII)I" } : Jvm.MethodName)) ∈ zWS := zme 1108 rfl rfl
set_option maxRecDepth 100000 in
theorem w1109 : (Jvm.Cond.instanceMethod ({ cls := "EditionGridModel", name := "ink", desc := "(IIII)I" } : Jvm.MethodName)) ∈ zWS := zme 1109 rfl rfl
set_option maxRecDepth 100000 in
theorem w1110 : (Jvm.Cond.selects "EditionGridModel" ({ cls := "EditionGridModel", name := "ink", desc := "(IIII)I" } : Jvm.MethodName) ({ cls := "EditionGridModel", name := "ink", desc := "(IIII)I" } : Jvm.MethodName)) ∈ zWS := zme 1110 rfl rfl
set_option maxRecDepth 100000 in
theorem w1111 : (Jvm.Cond.code ({ cls := "EditionGridModel", name := "ink", desc := "(IIII)I" } : Jvm.MethodName) prog_12_method_55_code (9 : Nat) (Option.some Jvm.ClassFile.FieldType.int)) ∈ zWS := zme 1111 rfl rfl
set_option maxRecDepth 100000 in
theorem w1112 : (Jvm.Cond.methodLink "EditionGridModel" (288 : Nat) ({ cls := "EditionGridModel", name := "cell", desc := "(III)I" } : Jvm.MethodName)) ∈ zWS := zme 1112 rfl rfl
set_option maxRecDepth 100000 in
theorem w1113 : (Jvm.Cond.methodLink "EditionGridModel" (284 : Nat) ({ cls := "EditionGridModel", name := "inkOf", desc := "(IIIIII)I" } : Jvm.MethodName)) ∈ zWS := zme 1113 rfl rfl
set_option maxRecDepth 100000 in
theorem w1115 : (Jvm.Cond.instanceMethod ({ cls := "EditionGridModel", name := "inkOf", desc := "(IIIIII)I" } : Jvm.MethodName)) ∈ zWS := zme 1115 rfl rfl
set_option maxRecDepth 100000 in
theorem w1116 : (Jvm.Cond.code ({ cls := "EditionGridModel", name := "inkOf", desc := "(IIIIII)I" } : Jvm.MethodName) prog_12_method_53_code (11 : Nat) (Option.some Jvm.ClassFile.FieldType.int)) ∈ zWS := zme 1116 rfl rfl
set_option maxRecDepth 100000 in
theorem w1117 : (Jvm.Cond.methodLink "EditionGridModel" (199 : Nat) ({ cls := "EditionGridModel", name := "isWordEnd", desc := "(II)Z" } : Jvm.MethodName)) ∈ zWS := zme 1117 rfl rfl
set_option maxRecDepth 100000 in
theorem w1119 : (Jvm.Cond.instanceMethod ({ cls := "EditionGridModel", name := "isWordEnd", desc := "(II)Z" } : Jvm.MethodName)) ∈ zWS := zme 1119 rfl rfl
set_option maxRecDepth 100000 in
theorem w1120 : (Jvm.Cond.code ({ cls := "EditionGridModel", name := "isWordEnd", desc := "(II)Z" } : Jvm.MethodName) prog_12_method_26_code (5 : Nat) (Option.some Jvm.ClassFile.FieldType.boolean)) ∈ zWS := zme 1120 rfl rfl
set_option maxRecDepth 100000 in
theorem w1121 : (Jvm.Cond.methodLink "EditionGridModel" (291 : Nat) ({ cls := "EditionGridModel", name := "lineInk", desc := "(II)I" } : Jvm.MethodName)) ∈ zWS := zme 1121 rfl rfl
set_option maxRecDepth 100000 in
theorem w1123 : (Jvm.Cond.instanceMethod ({ cls := "EditionGridModel", name := "lineInk", desc := "(II)I" } : Jvm.MethodName)) ∈ zWS := zme 1123 rfl rfl
set_option maxRecDepth 100000 in
theorem w1124 : (Jvm.Cond.code ({ cls := "EditionGridModel", name := "lineInk", desc := "(II)I" } : Jvm.MethodName) prog_12_method_54_code (7 : Nat) (Option.some Jvm.ClassFile.FieldType.int)) ∈ zWS := zme 1124 rfl rfl
set_option maxRecDepth 100000 in
theorem w1125 : (Jvm.Cond.methodLink "EditionGridModel" (202 : Nat) ({ cls := "EditionGridModel", name := "spaces", desc := "(III)I" } : Jvm.MethodName)) ∈ zWS := zme 1125 rfl rfl
set_option maxRecDepth 100000 in
theorem w1127 : (Jvm.Cond.instanceMethod ({ cls := "EditionGridModel", name := "spaces", desc := "(III)I" } : Jvm.MethodName)) ∈ zWS := zme 1127 rfl rfl
set_option maxRecDepth 100000 in
theorem w1128 : (Jvm.Cond.code ({ cls := "EditionGridModel", name := "spaces", desc := "(III)I" } : Jvm.MethodName) prog_12_method_27_code (6 : Nat) (Option.some Jvm.ClassFile.FieldType.int)) ∈ zWS := zme 1128 rfl rfl
set_option maxRecDepth 100000 in
theorem w1129 : (Jvm.Cond.methodLink "EditionGridModel" (281 : Nat) ({ cls := "EditionGridModel", name := "widthOf", desc := "(III)I" } : Jvm.MethodName)) ∈ zWS := zme 1129 rfl rfl
set_option maxRecDepth 100000 in
theorem w1131 : (Jvm.Cond.instanceMethod ({ cls := "EditionGridModel", name := "widthOf", desc := "(III)I" } : Jvm.MethodName)) ∈ zWS := zme 1131 rfl rfl
set_option maxRecDepth 100000 in
theorem w1132 : (Jvm.Cond.code ({ cls := "EditionGridModel", name := "widthOf", desc := "(III)I" } : Jvm.MethodName) prog_12_method_28_code (6 : Nat) (Option.some Jvm.ClassFile.FieldType.int)) ∈ zWS := zme 1132 rfl rfl
set_option maxRecDepth 100000 in
theorem w1133 : (Jvm.Cond.constantLong "EditionGridLaw" (26 : Nat) (4294967295 : Int64)) ∈ zWS := zme 1133 rfl rfl
