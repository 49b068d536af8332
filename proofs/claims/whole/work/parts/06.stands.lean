-- clear()V
abbrev rmX1_clear : Room := { frames := 0, cells := 0, slots := 0, locals := 0 }
abbrev wX1_clear (cI cC cB cS : ClassId) (a_t a_t_kinds a_t_hours a_t_lands a_t_owners a_t_treeWalls a_t_treePlaces : Nat) (t_families : Int32) (t_walls : Int32) (t_trees : Int32) : va_W := [(a_t, .inr (1, [.int t_families, .int t_walls, .int t_trees, .ref a_t_kinds, .ref a_t_hours, .ref a_t_lands, .ref a_t_owners, .ref a_t_treeWalls, .ref a_t_treePlaces]))]
theorem hNm_X1_clear : hNm yX1_clear 0 := by decide +kernel
theorem m_X1_clear_f30 : Cond.fieldLink RX1 30 "LeaningWalls$County" "families" "I" ∈ wsX1_clear := by decide +kernel
theorem in_X1_clear_X1 : ∀ w ∈ wsX10, w ∈ wsX1_clear := by decide +kernel
theorem m_X1_clear_f34 : Cond.fieldLink RX1 34 "LeaningWalls$County" "walls" "I" ∈ wsX1_clear := by decide +kernel
theorem m_X1_clear_f37 : Cond.fieldLink RX1 37 "LeaningWalls$County" "trees" "I" ∈ wsX1_clear := by decide +kernel
def P_X1_clear  (t_families : Int32) (t_walls : Int32) (t_trees : Int32) (post : Int32 → Int32 → Int32 → Prop) : Prop := post (0 : Int32) (0 : Int32) (0 : Int32)
set_option maxHeartbeats 4000000 in
set_option maxRecDepth 100000 in
theorem k_X1_clear (l : Launch) (D : va_G) (cI cC cB cS : ClassId) (a_t a_t_kinds a_t_hours a_t_lands a_t_owners a_t_treeWalls a_t_treePlaces : Nat) (t_families : Int32) (t_walls : Int32) (t_trees : Int32)  {post : Int32 → Int32 → Int32 → Prop} (hp : P_X1_clear  t_families t_walls t_trees post) {p : Program} {e : Env} {s : State} {m : MethodId} {args : Array Value} {below : List Frame} {meth : Method} {c : Code} {Q : State → Prop} {A : Nat → Prop} {H0 : Heap} (X : WCtx p s m args c cX1_clear 1 wsX1_clear RX1 H0 A D (tyL cI cC cB cS)) (hret : ∀ {pc : Nat} {ls : Array Slot} {H : Heap} {locs : List Loc} (u : Int32 × Int32 × Int32), decode cX1_clear pc = .ok (.return_, 1) → post u.1 u.2.1 u.2.2 → va_P D vwCl (wX1_clear cI cC cB cS a_t a_t_kinds a_t_hours a_t_lands a_t_owners a_t_treeWalls a_t_treePlaces u.1 u.2.1 u.2.2) H → va_D A (wX1_clear cI cC cB cS a_t a_t_kinds a_t_hours a_t_lands a_t_owners a_t_treeWalls a_t_treePlaces u.1 u.2.1 u.2.2) → va_S A H0 H locs → W p l e rmX1_clear s m args below meth c H locs 0 0 Q (F0 m pc ls [])) {H : Heap} {locs : List Loc} {ls : Array Slot} (hP : va_P D vwCl (wX1_clear cI cC cB cS a_t a_t_kinds a_t_hours a_t_lands a_t_owners a_t_treeWalls a_t_treePlaces t_families t_walls t_trees) H) (hD : va_D A (wX1_clear cI cC cB cS a_t a_t_kinds a_t_hours a_t_lands a_t_owners a_t_treeWalls a_t_treePlaces t_families t_walls t_trees)) (hS : va_S A H0 H locs) (hl : lv_has ls 1 [(0, .ref a_t)]) : W p l e rmX1_clear s m args below meth c H locs 0 0 Q (F0 m 0 ls []) := by
  obtain ⟨⟨hx, hb, hml, hown, hts⟩, hA, hK, hN⟩ := id X
  unfold P_X1_clear at hp
  refine lv_aload_n hx hb dX1_clear_0 rfl (lv_at hl 0 rfl) ?_
  refine lv_iconst (v := 0) hx hb dX1_clear_1 (by decide) ?_
  refine va_put (D := D) (ci := 1) (v := .int (0 : Int32)) (ty := .int) (C := RX1) (T := TX1) (N := 9) hx hb hts in_X1_clear_X1 tyX1 tyX1_ok nmX1 hown hK hP hD hS 0 rfl rfl 0 (by decide) (hts _ m_X1_clear_f30) (fun _ h9 => h9) rfl (by decide +kernel) rfl rfl (Nat.le_of_ble_eq_true rfl) dX1_clear_2 (fun H locs hP hD hS => ?_)
  have hP : va_P D vwCl (wX1_clear cI cC cB cS a_t a_t_kinds a_t_hours a_t_lands a_t_owners a_t_treeWalls a_t_treePlaces (0 : Int32) t_walls t_trees) H := hP
  have hD : va_D A (wX1_clear cI cC cB cS a_t a_t_kinds a_t_hours a_t_lands a_t_owners a_t_treeWalls a_t_treePlaces (0 : Int32) t_walls t_trees) := hD
  refine lv_aload_n hx hb dX1_clear_5 rfl (lv_at hl 0 rfl) ?_
  refine lv_iconst (v := 0) hx hb dX1_clear_6 (by decide) ?_
  refine va_put (D := D) (ci := 1) (v := .int (0 : Int32)) (ty := .int) (C := RX1) (T := TX1) (N := 9) hx hb hts in_X1_clear_X1 tyX1 tyX1_ok nmX1 hown hK hP hD hS 0 rfl rfl 1 (by decide) (hts _ m_X1_clear_f34) (fun _ h9 => h9) rfl (by decide +kernel) rfl rfl (Nat.le_of_ble_eq_true rfl) dX1_clear_7 (fun H locs hP hD hS => ?_)
  have hP : va_P D vwCl (wX1_clear cI cC cB cS a_t a_t_kinds a_t_hours a_t_lands a_t_owners a_t_treeWalls a_t_treePlaces (0 : Int32) (0 : Int32) t_trees) H := hP
  have hD : va_D A (wX1_clear cI cC cB cS a_t a_t_kinds a_t_hours a_t_lands a_t_owners a_t_treeWalls a_t_treePlaces (0 : Int32) (0 : Int32) t_trees) := hD
  refine lv_aload_n hx hb dX1_clear_10 rfl (lv_at hl 0 rfl) ?_
  refine lv_iconst (v := 0) hx hb dX1_clear_11 (by decide) ?_
  refine va_put (D := D) (ci := 1) (v := .int (0 : Int32)) (ty := .int) (C := RX1) (T := TX1) (N := 9) hx hb hts in_X1_clear_X1 tyX1 tyX1_ok nmX1 hown hK hP hD hS 0 rfl rfl 2 (by decide) (hts _ m_X1_clear_f37) (fun _ h9 => h9) rfl (by decide +kernel) rfl rfl (Nat.le_of_ble_eq_true rfl) dX1_clear_12 (fun H locs hP hD hS => ?_)
  have hP : va_P D vwCl (wX1_clear cI cC cB cS a_t a_t_kinds a_t_hours a_t_lands a_t_owners a_t_treeWalls a_t_treePlaces (0 : Int32) (0 : Int32) (0 : Int32)) H := hP
  have hD : va_D A (wX1_clear cI cC cB cS a_t a_t_kinds a_t_hours a_t_lands a_t_owners a_t_treeWalls a_t_treePlaces (0 : Int32) (0 : Int32) (0 : Int32)) := hD
  exact hret ((0 : Int32), (0 : Int32), (0 : Int32)) dX1_clear_15 hp hP hD hS
theorem c_X1_clear (l : Launch) (D : va_G) (cI cC cB cS : ClassId) (a_t a_t_kinds a_t_hours a_t_lands a_t_owners a_t_treeWalls a_t_treePlaces : Nat) (t_families : Int32) (t_walls : Int32) (t_trees : Int32)  {post : Int32 → Int32 → Int32 → Prop} (hp : P_X1_clear  t_families t_walls t_trees post) : CtrV l yX1_clear wsX1_clear rmX1_clear D (tyL cI cC cB cS) [.ref a_t] (wX1_clear cI cC cB cS a_t a_t_kinds a_t_hours a_t_lands a_t_owners a_t_treeWalls a_t_treePlaces t_families t_walls t_trees) (fun (u : Int32 × Int32 × Int32) => post u.1 u.2.1 u.2.2) (fun u => (wX1_clear cI cC cB cS a_t a_t_kinds a_t_hours a_t_lands a_t_owners a_t_treeWalls a_t_treePlaces u.1 u.2.1 u.2.2)) 0 0 :=
  ctrV_of (cc := cX1_clear) (maxL := 1) (by decide) rfl (Nat.le_of_ble_eq_true rfl) (fun X hret _ _ _ hP hD hS hl => k_X1_clear l D cI cC cB cS a_t a_t_kinds a_t_hours a_t_lands a_t_owners a_t_treeWalls a_t_treePlaces t_families t_walls t_trees hp X hret hP hD hS hl)
-- takeOver(LLeaningWalls$County;)V
abbrev rmX1_takeOver : Room := { frames := 1, cells := 0, slots := 0, locals := 18 }
abbrev wX1_takeOver (cI cC cB cS : ClassId) (a_p1 a_p1_kinds a_p1_hours a_p1_lands a_p1_owners a_p1_treeWalls a_p1_treePlaces a_t a_t_kinds a_t_hours a_t_lands a_t_owners a_t_treeWalls a_t_treePlaces : Nat) (p1_families : Int32) (p1_walls : Int32) (p1_trees : Int32) (t_families : Int32) (t_walls : Int32) (t_trees : Int32) (t_kinds : Nat → Int32) (p1_kinds : Nat → Int32) (t_hours : Nat → Int32) (p1_hours : Nat → Int32) (t_lands : Nat → Int32) (p1_lands : Nat → Int32) (t_owners : Nat → Int32) (p1_owners : Nat → Int32) (t_treeWalls : Nat → Int32) (p1_treeWalls : Nat → Int32) (t_treePlaces : Nat → Int32) (p1_treePlaces : Nat → Int32) : va_W := [(a_p1, .inr (1, [.int p1_families, .int p1_walls, .int p1_trees, .ref a_p1_kinds, .ref a_p1_hours, .ref a_p1_lands, .ref a_p1_owners, .ref a_p1_treeWalls, .ref a_p1_treePlaces])), (a_t, .inr (1, [.int t_families, .int t_walls, .int t_trees, .ref a_t_kinds, .ref a_t_hours, .ref a_t_lands, .ref a_t_owners, .ref a_t_treeWalls, .ref a_t_treePlaces])), (a_t_kinds, .inl (cI, 6, .inl t_kinds)), (a_p1_kinds, .inl (cI, 6, .inl p1_kinds)), (a_t_hours, .inl (cI, 6, .inl t_hours)), (a_p1_hours, .inl (cI, 6, .inl p1_hours)), (a_t_lands, .inl (cI, 6, .inl t_lands)), (a_p1_lands, .inl (cI, 6, .inl p1_lands)), (a_t_owners, .inl (cI, 18, .inl t_owners)), (a_p1_owners, .inl (cI, 18, .inl p1_owners)), (a_t_treeWalls, .inl (cI, 6, .inl t_treeWalls)), (a_p1_treeWalls, .inl (cI, 6, .inl p1_treeWalls)), (a_t_treePlaces, .inl (cI, 6, .inl t_treePlaces)), (a_p1_treePlaces, .inl (cI, 6, .inl p1_treePlaces))]
theorem hNm_X1_takeOver : hNm yX1_takeOver 1 := by decide +kernel
theorem m_X1_takeOver_f30 : Cond.fieldLink RX1 30 "LeaningWalls$County" "families" "I" ∈ wsX1_takeOver := by decide +kernel
theorem in_X1_takeOver_X1 : ∀ w ∈ wsX10, w ∈ wsX1_takeOver := by decide +kernel
theorem m_X1_takeOver_f34 : Cond.fieldLink RX1 34 "LeaningWalls$County" "walls" "I" ∈ wsX1_takeOver := by decide +kernel
theorem m_X1_takeOver_f37 : Cond.fieldLink RX1 37 "LeaningWalls$County" "trees" "I" ∈ wsX1_takeOver := by decide +kernel
theorem m_X1_takeOver_f9 : Cond.fieldLink RX1 9 "LeaningWalls$County" "kinds" "[I" ∈ wsX1_takeOver := by decide +kernel
theorem m_X1_takeOver_l40 : Cond.methodLink RX1 40 arraycopyName ∈ wsX1_takeOver := by decide +kernel
theorem m_X1_takeOver_nat : Cond.native arraycopyName ∈ wsX1_takeOver := by decide +kernel
theorem m_X1_takeOver_sta : Cond.static arraycopyName ∈ wsX1_takeOver := by decide +kernel
theorem m_X1_takeOver_ini : Cond.initialized "java/lang/System" ∈ wsX1_takeOver := by decide +kernel
theorem m_X1_takeOver_f15 : Cond.fieldLink RX1 15 "LeaningWalls$County" "hours" "[I" ∈ wsX1_takeOver := by decide +kernel
theorem m_X1_takeOver_f18 : Cond.fieldLink RX1 18 "LeaningWalls$County" "lands" "[I" ∈ wsX1_takeOver := by decide +kernel
theorem m_X1_takeOver_f21 : Cond.fieldLink RX1 21 "LeaningWalls$County" "owners" "[I" ∈ wsX1_takeOver := by decide +kernel
theorem m_X1_takeOver_f24 : Cond.fieldLink RX1 24 "LeaningWalls$County" "treeWalls" "[I" ∈ wsX1_takeOver := by decide +kernel
theorem m_X1_takeOver_f27 : Cond.fieldLink RX1 27 "LeaningWalls$County" "treePlaces" "[I" ∈ wsX1_takeOver := by decide +kernel
def P_X1_takeOver  (p1_families : Int32) (p1_walls : Int32) (p1_trees : Int32) (t_families : Int32) (t_walls : Int32) (t_trees : Int32) (t_kinds : Nat → Int32) (p1_kinds : Nat → Int32) (t_hours : Nat → Int32) (p1_hours : Nat → Int32) (t_lands : Nat → Int32) (p1_lands : Nat → Int32) (t_owners : Nat → Int32) (p1_owners : Nat → Int32) (t_treeWalls : Nat → Int32) (p1_treeWalls : Nat → Int32) (t_treePlaces : Nat → Int32) (p1_treePlaces : Nat → Int32) (post : Int32 → Int32 → Int32 → (Nat → Int32) → (Nat → Int32) → (Nat → Int32) → (Nat → Int32) → (Nat → Int32) → (Nat → Int32) → Prop) : Prop := post p1_families p1_walls p1_trees (va_cpy p1_kinds t_kinds 0 0 6) (va_cpy p1_hours t_hours 0 0 6) (va_cpy p1_lands t_lands 0 0 6) (va_cpy p1_owners t_owners 0 0 18) (va_cpy p1_treeWalls t_treeWalls 0 0 6) (va_cpy p1_treePlaces t_treePlaces 0 0 6)
set_option maxHeartbeats 4000000 in
set_option maxRecDepth 100000 in
theorem k_X1_takeOver (l : Launch) (D : va_G) (cI cC cB cS : ClassId) (a_p1 a_p1_kinds a_p1_hours a_p1_lands a_p1_owners a_p1_treeWalls a_p1_treePlaces a_t a_t_kinds a_t_hours a_t_lands a_t_owners a_t_treeWalls a_t_treePlaces : Nat) (p1_families : Int32) (p1_walls : Int32) (p1_trees : Int32) (t_families : Int32) (t_walls : Int32) (t_trees : Int32) (t_kinds : Nat → Int32) (p1_kinds : Nat → Int32) (t_hours : Nat → Int32) (p1_hours : Nat → Int32) (t_lands : Nat → Int32) (p1_lands : Nat → Int32) (t_owners : Nat → Int32) (p1_owners : Nat → Int32) (t_treeWalls : Nat → Int32) (p1_treeWalls : Nat → Int32) (t_treePlaces : Nat → Int32) (p1_treePlaces : Nat → Int32)  {post : Int32 → Int32 → Int32 → (Nat → Int32) → (Nat → Int32) → (Nat → Int32) → (Nat → Int32) → (Nat → Int32) → (Nat → Int32) → Prop} (hp : P_X1_takeOver  p1_families p1_walls p1_trees t_families t_walls t_trees t_kinds p1_kinds t_hours p1_hours t_lands p1_lands t_owners p1_owners t_treeWalls p1_treeWalls t_treePlaces p1_treePlaces post) {p : Program} {e : Env} {s : State} {m : MethodId} {args : Array Value} {below : List Frame} {meth : Method} {c : Code} {Q : State → Prop} {A : Nat → Prop} {H0 : Heap} (X : WCtx p s m args c cX1_takeOver 2 wsX1_takeOver RX1 H0 A D (tyL cI cC cB cS)) (hret : ∀ {pc : Nat} {ls : Array Slot} {H : Heap} {locs : List Loc} (u : Int32 × Int32 × Int32 × (Nat → Int32) × (Nat → Int32) × (Nat → Int32) × (Nat → Int32) × (Nat → Int32) × (Nat → Int32)), decode cX1_takeOver pc = .ok (.return_, 1) → post u.1 u.2.1 u.2.2.1 u.2.2.2.1 u.2.2.2.2.1 u.2.2.2.2.2.1 u.2.2.2.2.2.2.1 u.2.2.2.2.2.2.2.1 u.2.2.2.2.2.2.2.2 → va_P D vwCl (wX1_takeOver cI cC cB cS a_p1 a_p1_kinds a_p1_hours a_p1_lands a_p1_owners a_p1_treeWalls a_p1_treePlaces a_t a_t_kinds a_t_hours a_t_lands a_t_owners a_t_treeWalls a_t_treePlaces p1_families p1_walls p1_trees u.1 u.2.1 u.2.2.1 u.2.2.2.1 p1_kinds u.2.2.2.2.1 p1_hours u.2.2.2.2.2.1 p1_lands u.2.2.2.2.2.2.1 p1_owners u.2.2.2.2.2.2.2.1 p1_treeWalls u.2.2.2.2.2.2.2.2 p1_treePlaces) H → va_D A (wX1_takeOver cI cC cB cS a_p1 a_p1_kinds a_p1_hours a_p1_lands a_p1_owners a_p1_treeWalls a_p1_treePlaces a_t a_t_kinds a_t_hours a_t_lands a_t_owners a_t_treeWalls a_t_treePlaces p1_families p1_walls p1_trees u.1 u.2.1 u.2.2.1 u.2.2.2.1 p1_kinds u.2.2.2.2.1 p1_hours u.2.2.2.2.2.1 p1_lands u.2.2.2.2.2.2.1 p1_owners u.2.2.2.2.2.2.2.1 p1_treeWalls u.2.2.2.2.2.2.2.2 p1_treePlaces) → va_S A H0 H locs → W p l e rmX1_takeOver s m args below meth c H locs 0 0 Q (F0 m pc ls [])) {H : Heap} {locs : List Loc} {ls : Array Slot} (hP : va_P D vwCl (wX1_takeOver cI cC cB cS a_p1 a_p1_kinds a_p1_hours a_p1_lands a_p1_owners a_p1_treeWalls a_p1_treePlaces a_t a_t_kinds a_t_hours a_t_lands a_t_owners a_t_treeWalls a_t_treePlaces p1_families p1_walls p1_trees t_families t_walls t_trees t_kinds p1_kinds t_hours p1_hours t_lands p1_lands t_owners p1_owners t_treeWalls p1_treeWalls t_treePlaces p1_treePlaces) H) (hD : va_D A (wX1_takeOver cI cC cB cS a_p1 a_p1_kinds a_p1_hours a_p1_lands a_p1_owners a_p1_treeWalls a_p1_treePlaces a_t a_t_kinds a_t_hours a_t_lands a_t_owners a_t_treeWalls a_t_treePlaces p1_families p1_walls p1_trees t_families t_walls t_trees t_kinds p1_kinds t_hours p1_hours t_lands p1_lands t_owners p1_owners t_treeWalls p1_treeWalls t_treePlaces p1_treePlaces)) (hS : va_S A H0 H locs) (hl : lv_has ls 2 [(0, .ref a_t), (1, .ref a_p1)]) : W p l e rmX1_takeOver s m args below meth c H locs 0 0 Q (F0 m 0 ls []) := by
  obtain ⟨⟨hx, hb, hml, hown, hts⟩, hA, hK, hN⟩ := id X
  unfold P_X1_takeOver at hp
  refine lv_aload_n hx hb dX1_takeOver_0 rfl (lv_at hl 0 rfl) ?_
  refine lv_aload_n hx hb dX1_takeOver_1 rfl (lv_at hl 1 rfl) ?_
  refine va_get (D := D) (ci := 1) (v := .int p1_families) (C := RX1) (T := TX1) (N := 9) hx hb hts in_X1_takeOver_X1 hown hK hP 0 rfl rfl 0 (by decide) (hts _ m_X1_takeOver_f30) (fun _ h9 => h9) rfl dX1_takeOver_2 ?_
  refine va_put (D := D) (ci := 1) (v := .int p1_families) (ty := .int) (C := RX1) (T := TX1) (N := 9) hx hb hts in_X1_takeOver_X1 tyX1 tyX1_ok nmX1 hown hK hP hD hS 1 rfl rfl 0 (by decide) (hts _ m_X1_takeOver_f30) (fun _ h9 => h9) rfl (by decide +kernel) rfl rfl (Nat.le_of_ble_eq_true rfl) dX1_takeOver_5 (fun H locs hP hD hS => ?_)
  have hP : va_P D vwCl (wX1_takeOver cI cC cB cS a_p1 a_p1_kinds a_p1_hours a_p1_lands a_p1_owners a_p1_treeWalls a_p1_treePlaces a_t a_t_kinds a_t_hours a_t_lands a_t_owners a_t_treeWalls a_t_treePlaces p1_families p1_walls p1_trees p1_families t_walls t_trees t_kinds p1_kinds t_hours p1_hours t_lands p1_lands t_owners p1_owners t_treeWalls p1_treeWalls t_treePlaces p1_treePlaces) H := hP
  have hD : va_D A (wX1_takeOver cI cC cB cS a_p1 a_p1_kinds a_p1_hours a_p1_lands a_p1_owners a_p1_treeWalls a_p1_treePlaces a_t a_t_kinds a_t_hours a_t_lands a_t_owners a_t_treeWalls a_t_treePlaces p1_families p1_walls p1_trees p1_families t_walls t_trees t_kinds p1_kinds t_hours p1_hours t_lands p1_lands t_owners p1_owners t_treeWalls p1_treeWalls t_treePlaces p1_treePlaces) := hD
  refine lv_aload_n hx hb dX1_takeOver_8 rfl (lv_at hl 0 rfl) ?_
  refine lv_aload_n hx hb dX1_takeOver_9 rfl (lv_at hl 1 rfl) ?_
  refine va_get (D := D) (ci := 1) (v := .int p1_walls) (C := RX1) (T := TX1) (N := 9) hx hb hts in_X1_takeOver_X1 hown hK hP 0 rfl rfl 1 (by decide) (hts _ m_X1_takeOver_f34) (fun _ h9 => h9) rfl dX1_takeOver_10 ?_
  refine va_put (D := D) (ci := 1) (v := .int p1_walls) (ty := .int) (C := RX1) (T := TX1) (N := 9) hx hb hts in_X1_takeOver_X1 tyX1 tyX1_ok nmX1 hown hK hP hD hS 1 rfl rfl 1 (by decide) (hts _ m_X1_takeOver_f34) (fun _ h9 => h9) rfl (by decide +kernel) rfl rfl (Nat.le_of_ble_eq_true rfl) dX1_takeOver_13 (fun H locs hP hD hS => ?_)
  have hP : va_P D vwCl (wX1_takeOver cI cC cB cS a_p1 a_p1_kinds a_p1_hours a_p1_lands a_p1_owners a_p1_treeWalls a_p1_treePlaces a_t a_t_kinds a_t_hours a_t_lands a_t_owners a_t_treeWalls a_t_treePlaces p1_families p1_walls p1_trees p1_families p1_walls t_trees t_kinds p1_kinds t_hours p1_hours t_lands p1_lands t_owners p1_owners t_treeWalls p1_treeWalls t_treePlaces p1_treePlaces) H := hP
  have hD : va_D A (wX1_takeOver cI cC cB cS a_p1 a_p1_kinds a_p1_hours a_p1_lands a_p1_owners a_p1_treeWalls a_p1_treePlaces a_t a_t_kinds a_t_hours a_t_lands a_t_owners a_t_treeWalls a_t_treePlaces p1_families p1_walls p1_trees p1_families p1_walls t_trees t_kinds p1_kinds t_hours p1_hours t_lands p1_lands t_owners p1_owners t_treeWalls p1_treeWalls t_treePlaces p1_treePlaces) := hD
  refine lv_aload_n hx hb dX1_takeOver_16 rfl (lv_at hl 0 rfl) ?_
  refine lv_aload_n hx hb dX1_takeOver_17 rfl (lv_at hl 1 rfl) ?_
  refine va_get (D := D) (ci := 1) (v := .int p1_trees) (C := RX1) (T := TX1) (N := 9) hx hb hts in_X1_takeOver_X1 hown hK hP 0 rfl rfl 2 (by decide) (hts _ m_X1_takeOver_f37) (fun _ h9 => h9) rfl dX1_takeOver_18 ?_
  refine va_put (D := D) (ci := 1) (v := .int p1_trees) (ty := .int) (C := RX1) (T := TX1) (N := 9) hx hb hts in_X1_takeOver_X1 tyX1 tyX1_ok nmX1 hown hK hP hD hS 1 rfl rfl 2 (by decide) (hts _ m_X1_takeOver_f37) (fun _ h9 => h9) rfl (by decide +kernel) rfl rfl (Nat.le_of_ble_eq_true rfl) dX1_takeOver_21 (fun H locs hP hD hS => ?_)
  have hP : va_P D vwCl (wX1_takeOver cI cC cB cS a_p1 a_p1_kinds a_p1_hours a_p1_lands a_p1_owners a_p1_treeWalls a_p1_treePlaces a_t a_t_kinds a_t_hours a_t_lands a_t_owners a_t_treeWalls a_t_treePlaces p1_families p1_walls p1_trees p1_families p1_walls p1_trees t_kinds p1_kinds t_hours p1_hours t_lands p1_lands t_owners p1_owners t_treeWalls p1_treeWalls t_treePlaces p1_treePlaces) H := hP
  have hD : va_D A (wX1_takeOver cI cC cB cS a_p1 a_p1_kinds a_p1_hours a_p1_lands a_p1_owners a_p1_treeWalls a_p1_treePlaces a_t a_t_kinds a_t_hours a_t_lands a_t_owners a_t_treeWalls a_t_treePlaces p1_families p1_walls p1_trees p1_families p1_walls p1_trees t_kinds p1_kinds t_hours p1_hours t_lands p1_lands t_owners p1_owners t_treeWalls p1_treeWalls t_treePlaces p1_treePlaces) := hD
  refine lv_aload_n hx hb dX1_takeOver_24 rfl (lv_at hl 1 rfl) ?_
  refine va_get (D := D) (ci := 1) (v := .ref a_p1_kinds) (C := RX1) (T := TX1) (N := 9) hx hb hts in_X1_takeOver_X1 hown hK hP 0 rfl rfl 3 (by decide) (hts _ m_X1_takeOver_f9) (fun _ h9 => h9) rfl dX1_takeOver_25 ?_
  refine lv_iconst (v := 0) hx hb dX1_takeOver_28 (by decide) ?_
  refine lv_aload_n hx hb dX1_takeOver_29 rfl (lv_at hl 0 rfl) ?_
  refine va_get (D := D) (ci := 1) (v := .ref a_t_kinds) (C := RX1) (T := TX1) (N := 9) hx hb hts in_X1_takeOver_X1 hown hK hP 1 rfl rfl 3 (by decide) (hts _ m_X1_takeOver_f9) (fun _ h9 => h9) rfl dX1_takeOver_30 ?_
  refine lv_iconst (v := 0) hx hb dX1_takeOver_33 (by decide) ?_
  refine lv_aload_n hx hb dX1_takeOver_34 rfl (lv_at hl 0 rfl) ?_
  refine va_get (D := D) (ci := 1) (v := .ref a_t_kinds) (C := RX1) (T := TX1) (N := 9) hx hb hts in_X1_takeOver_X1 hown hK hP 1 rfl rfl 3 (by decide) (hts _ m_X1_takeOver_f9) (fun _ h9 => h9) rfl dX1_takeOver_35 ?_
  refine va_alen (D := D) (v := 6) hx hb hK hP 2 0 rfl rfl rfl dX1_takeOver_38 ?_
  refine hcopy (D := D) X hP hD hS hl.1 3 2 0 rfl rfl rfl rfl m_X1_takeOver_l40 m_X1_takeOver_nat m_X1_takeOver_sta m_X1_takeOver_ini (n := 6) (k := 6) (by decide) rfl (by decide) (by decide) (fun _ _ => rfl) (Nat.le_of_ble_eq_true rfl) (Nat.le_of_ble_eq_true rfl) dX1_takeOver_39 (fun H locs hP hD hS => ?_)
  have hP : va_P D vwCl (wX1_takeOver cI cC cB cS a_p1 a_p1_kinds a_p1_hours a_p1_lands a_p1_owners a_p1_treeWalls a_p1_treePlaces a_t a_t_kinds a_t_hours a_t_lands a_t_owners a_t_treeWalls a_t_treePlaces p1_families p1_walls p1_trees p1_families p1_walls p1_trees (va_cpy p1_kinds t_kinds 0 0 6) p1_kinds t_hours p1_hours t_lands p1_lands t_owners p1_owners t_treeWalls p1_treeWalls t_treePlaces p1_treePlaces) H := hP
  have hD : va_D A (wX1_takeOver cI cC cB cS a_p1 a_p1_kinds a_p1_hours a_p1_lands a_p1_owners a_p1_treeWalls a_p1_treePlaces a_t a_t_kinds a_t_hours a_t_lands a_t_owners a_t_treeWalls a_t_treePlaces p1_families p1_walls p1_trees p1_families p1_walls p1_trees (va_cpy p1_kinds t_kinds 0 0 6) p1_kinds t_hours p1_hours t_lands p1_lands t_owners p1_owners t_treeWalls p1_treeWalls t_treePlaces p1_treePlaces) := hD
  refine lv_aload_n hx hb dX1_takeOver_42 rfl (lv_at hl 1 rfl) ?_
  refine va_get (D := D) (ci := 1) (v := .ref a_p1_hours) (C := RX1) (T := TX1) (N := 9) hx hb hts in_X1_takeOver_X1 hown hK hP 0 rfl rfl 4 (by decide) (hts _ m_X1_takeOver_f15) (fun _ h9 => h9) rfl dX1_takeOver_43 ?_
  refine lv_iconst (v := 0) hx hb dX1_takeOver_46 (by decide) ?_
  refine lv_aload_n hx hb dX1_takeOver_47 rfl (lv_at hl 0 rfl) ?_
  refine va_get (D := D) (ci := 1) (v := .ref a_t_hours) (C := RX1) (T := TX1) (N := 9) hx hb hts in_X1_takeOver_X1 hown hK hP 1 rfl rfl 4 (by decide) (hts _ m_X1_takeOver_f15) (fun _ h9 => h9) rfl dX1_takeOver_48 ?_
  refine lv_iconst (v := 0) hx hb dX1_takeOver_51 (by decide) ?_
  refine lv_aload_n hx hb dX1_takeOver_52 rfl (lv_at hl 0 rfl) ?_
  refine va_get (D := D) (ci := 1) (v := .ref a_t_hours) (C := RX1) (T := TX1) (N := 9) hx hb hts in_X1_takeOver_X1 hown hK hP 1 rfl rfl 4 (by decide) (hts _ m_X1_takeOver_f15) (fun _ h9 => h9) rfl dX1_takeOver_53 ?_
  refine va_alen (D := D) (v := 6) hx hb hK hP 4 0 rfl rfl rfl dX1_takeOver_56 ?_
  refine hcopy (D := D) X hP hD hS hl.1 5 4 0 rfl rfl rfl rfl m_X1_takeOver_l40 m_X1_takeOver_nat m_X1_takeOver_sta m_X1_takeOver_ini (n := 6) (k := 6) (by decide) rfl (by decide) (by decide) (fun _ _ => rfl) (Nat.le_of_ble_eq_true rfl) (Nat.le_of_ble_eq_true rfl) dX1_takeOver_57 (fun H locs hP hD hS => ?_)
  have hP : va_P D vwCl (wX1_takeOver cI cC cB cS a_p1 a_p1_kinds a_p1_hours a_p1_lands a_p1_owners a_p1_treeWalls a_p1_treePlaces a_t a_t_kinds a_t_hours a_t_lands a_t_owners a_t_treeWalls a_t_treePlaces p1_families p1_walls p1_trees p1_families p1_walls p1_trees (va_cpy p1_kinds t_kinds 0 0 6) p1_kinds (va_cpy p1_hours t_hours 0 0 6) p1_hours t_lands p1_lands t_owners p1_owners t_treeWalls p1_treeWalls t_treePlaces p1_treePlaces) H := hP
  have hD : va_D A (wX1_takeOver cI cC cB cS a_p1 a_p1_kinds a_p1_hours a_p1_lands a_p1_owners a_p1_treeWalls a_p1_treePlaces a_t a_t_kinds a_t_hours a_t_lands a_t_owners a_t_treeWalls a_t_treePlaces p1_families p1_walls p1_trees p1_families p1_walls p1_trees (va_cpy p1_kinds t_kinds 0 0 6) p1_kinds (va_cpy p1_hours t_hours 0 0 6) p1_hours t_lands p1_lands t_owners p1_owners t_treeWalls p1_treeWalls t_treePlaces p1_treePlaces) := hD
  refine lv_aload_n hx hb dX1_takeOver_60 rfl (lv_at hl 1 rfl) ?_
  refine va_get (D := D) (ci := 1) (v := .ref a_p1_lands) (C := RX1) (T := TX1) (N := 9) hx hb hts in_X1_takeOver_X1 hown hK hP 0 rfl rfl 5 (by decide) (hts _ m_X1_takeOver_f18) (fun _ h9 => h9) rfl dX1_takeOver_61 ?_
  refine lv_iconst (v := 0) hx hb dX1_takeOver_64 (by decide) ?_
  refine lv_aload_n hx hb dX1_takeOver_65 rfl (lv_at hl 0 rfl) ?_
  refine va_get (D := D) (ci := 1) (v := .ref a_t_lands) (C := RX1) (T := TX1) (N := 9) hx hb hts in_X1_takeOver_X1 hown hK hP 1 rfl rfl 5 (by decide) (hts _ m_X1_takeOver_f18) (fun _ h9 => h9) rfl dX1_takeOver_66 ?_
  refine lv_iconst (v := 0) hx hb dX1_takeOver_69 (by decide) ?_
  refine lv_aload_n hx hb dX1_takeOver_70 rfl (lv_at hl 0 rfl) ?_
  refine va_get (D := D) (ci := 1) (v := .ref a_t_lands) (C := RX1) (T := TX1) (N := 9) hx hb hts in_X1_takeOver_X1 hown hK hP 1 rfl rfl 5 (by decide) (hts _ m_X1_takeOver_f18) (fun _ h9 => h9) rfl dX1_takeOver_71 ?_
  refine va_alen (D := D) (v := 6) hx hb hK hP 6 0 rfl rfl rfl dX1_takeOver_74 ?_
  refine hcopy (D := D) X hP hD hS hl.1 7 6 0 rfl rfl rfl rfl m_X1_takeOver_l40 m_X1_takeOver_nat m_X1_takeOver_sta m_X1_takeOver_ini (n := 6) (k := 6) (by decide) rfl (by decide) (by decide) (fun _ _ => rfl) (Nat.le_of_ble_eq_true rfl) (Nat.le_of_ble_eq_true rfl) dX1_takeOver_75 (fun H locs hP hD hS => ?_)
  have hP : va_P D vwCl (wX1_takeOver cI cC cB cS a_p1 a_p1_kinds a_p1_hours a_p1_lands a_p1_owners a_p1_treeWalls a_p1_treePlaces a_t a_t_kinds a_t_hours a_t_lands a_t_owners a_t_treeWalls a_t_treePlaces p1_families p1_walls p1_trees p1_families p1_walls p1_trees (va_cpy p1_kinds t_kinds 0 0 6) p1_kinds (va_cpy p1_hours t_hours 0 0 6) p1_hours (va_cpy p1_lands t_lands 0 0 6) p1_lands t_owners p1_owners t_treeWalls p1_treeWalls t_treePlaces p1_treePlaces) H := hP
  have hD : va_D A (wX1_takeOver cI cC cB cS a_p1 a_p1_kinds a_p1_hours a_p1_lands a_p1_owners a_p1_treeWalls a_p1_treePlaces a_t a_t_kinds a_t_hours a_t_lands a_t_owners a_t_treeWalls a_t_treePlaces p1_families p1_walls p1_trees p1_families p1_walls p1_trees (va_cpy p1_kinds t_kinds 0 0 6) p1_kinds (va_cpy p1_hours t_hours 0 0 6) p1_hours (va_cpy p1_lands t_lands 0 0 6) p1_lands t_owners p1_owners t_treeWalls p1_treeWalls t_treePlaces p1_treePlaces) := hD
  refine lv_aload_n hx hb dX1_takeOver_78 rfl (lv_at hl 1 rfl) ?_
  refine va_get (D := D) (ci := 1) (v := .ref a_p1_owners) (C := RX1) (T := TX1) (N := 9) hx hb hts in_X1_takeOver_X1 hown hK hP 0 rfl rfl 6 (by decide) (hts _ m_X1_takeOver_f21) (fun _ h9 => h9) rfl dX1_takeOver_79 ?_
  refine lv_iconst (v := 0) hx hb dX1_takeOver_82 (by decide) ?_
  refine lv_aload_n hx hb dX1_takeOver_83 rfl (lv_at hl 0 rfl) ?_
  refine va_get (D := D) (ci := 1) (v := .ref a_t_owners) (C := RX1) (T := TX1) (N := 9) hx hb hts in_X1_takeOver_X1 hown hK hP 1 rfl rfl 6 (by decide) (hts _ m_X1_takeOver_f21) (fun _ h9 => h9) rfl dX1_takeOver_84 ?_
  refine lv_iconst (v := 0) hx hb dX1_takeOver_87 (by decide) ?_
  refine lv_aload_n hx hb dX1_takeOver_88 rfl (lv_at hl 0 rfl) ?_
  refine va_get (D := D) (ci := 1) (v := .ref a_t_owners) (C := RX1) (T := TX1) (N := 9) hx hb hts in_X1_takeOver_X1 hown hK hP 1 rfl rfl 6 (by decide) (hts _ m_X1_takeOver_f21) (fun _ h9 => h9) rfl dX1_takeOver_89 ?_
  refine va_alen (D := D) (v := 18) hx hb hK hP 8 0 rfl rfl rfl dX1_takeOver_92 ?_
  refine hcopy (D := D) X hP hD hS hl.1 9 8 0 rfl rfl rfl rfl m_X1_takeOver_l40 m_X1_takeOver_nat m_X1_takeOver_sta m_X1_takeOver_ini (n := 18) (k := 18) (by decide) rfl (by decide) (by decide) (fun _ _ => rfl) (Nat.le_of_ble_eq_true rfl) (Nat.le_of_ble_eq_true rfl) dX1_takeOver_93 (fun H locs hP hD hS => ?_)
  have hP : va_P D vwCl (wX1_takeOver cI cC cB cS a_p1 a_p1_kinds a_p1_hours a_p1_lands a_p1_owners a_p1_treeWalls a_p1_treePlaces a_t a_t_kinds a_t_hours a_t_lands a_t_owners a_t_treeWalls a_t_treePlaces p1_families p1_walls p1_trees p1_families p1_walls p1_trees (va_cpy p1_kinds t_kinds 0 0 6) p1_kinds (va_cpy p1_hours t_hours 0 0 6) p1_hours (va_cpy p1_lands t_lands 0 0 6) p1_lands (va_cpy p1_owners t_owners 0 0 18) p1_owners t_treeWalls p1_treeWalls t_treePlaces p1_treePlaces) H := hP
  have hD : va_D A (wX1_takeOver cI cC cB cS a_p1 a_p1_kinds a_p1_hours a_p1_lands a_p1_owners a_p1_treeWalls a_p1_treePlaces a_t a_t_kinds a_t_hours a_t_lands a_t_owners a_t_treeWalls a_t_treePlaces p1_families p1_walls p1_trees p1_families p1_walls p1_trees (va_cpy p1_kinds t_kinds 0 0 6) p1_kinds (va_cpy p1_hours t_hours 0 0 6) p1_hours (va_cpy p1_lands t_lands 0 0 6) p1_lands (va_cpy p1_owners t_owners 0 0 18) p1_owners t_treeWalls p1_treeWalls t_treePlaces p1_treePlaces) := hD
  refine lv_aload_n hx hb dX1_takeOver_96 rfl (lv_at hl 1 rfl) ?_
  refine va_get (D := D) (ci := 1) (v := .ref a_p1_treeWalls) (C := RX1) (T := TX1) (N := 9) hx hb hts in_X1_takeOver_X1 hown hK hP 0 rfl rfl 7 (by decide) (hts _ m_X1_takeOver_f24) (fun _ h9 => h9) rfl dX1_takeOver_97 ?_
  refine lv_iconst (v := 0) hx hb dX1_takeOver_100 (by decide) ?_
  refine lv_aload_n hx hb dX1_takeOver_101 rfl (lv_at hl 0 rfl) ?_
  refine va_get (D := D) (ci := 1) (v := .ref a_t_treeWalls) (C := RX1) (T := TX1) (N := 9) hx hb hts in_X1_takeOver_X1 hown hK hP 1 rfl rfl 7 (by decide) (hts _ m_X1_takeOver_f24) (fun _ h9 => h9) rfl dX1_takeOver_102 ?_
  refine lv_iconst (v := 0) hx hb dX1_takeOver_105 (by decide) ?_
  refine lv_aload_n hx hb dX1_takeOver_106 rfl (lv_at hl 0 rfl) ?_
  refine va_get (D := D) (ci := 1) (v := .ref a_t_treeWalls) (C := RX1) (T := TX1) (N := 9) hx hb hts in_X1_takeOver_X1 hown hK hP 1 rfl rfl 7 (by decide) (hts _ m_X1_takeOver_f24) (fun _ h9 => h9) rfl dX1_takeOver_107 ?_
  refine va_alen (D := D) (v := 6) hx hb hK hP 10 0 rfl rfl rfl dX1_takeOver_110 ?_
  refine hcopy (D := D) X hP hD hS hl.1 11 10 0 rfl rfl rfl rfl m_X1_takeOver_l40 m_X1_takeOver_nat m_X1_takeOver_sta m_X1_takeOver_ini (n := 6) (k := 6) (by decide) rfl (by decide) (by decide) (fun _ _ => rfl) (Nat.le_of_ble_eq_true rfl) (Nat.le_of_ble_eq_true rfl) dX1_takeOver_111 (fun H locs hP hD hS => ?_)
  have hP : va_P D vwCl (wX1_takeOver cI cC cB cS a_p1 a_p1_kinds a_p1_hours a_p1_lands a_p1_owners a_p1_treeWalls a_p1_treePlaces a_t a_t_kinds a_t_hours a_t_lands a_t_owners a_t_treeWalls a_t_treePlaces p1_families p1_walls p1_trees p1_families p1_walls p1_trees (va_cpy p1_kinds t_kinds 0 0 6) p1_kinds (va_cpy p1_hours t_hours 0 0 6) p1_hours (va_cpy p1_lands t_lands 0 0 6) p1_lands (va_cpy p1_owners t_owners 0 0 18) p1_owners (va_cpy p1_treeWalls t_treeWalls 0 0 6) p1_treeWalls t_treePlaces p1_treePlaces) H := hP
  have hD : va_D A (wX1_takeOver cI cC cB cS a_p1 a_p1_kinds a_p1_hours a_p1_lands a_p1_owners a_p1_treeWalls a_p1_treePlaces a_t a_t_kinds a_t_hours a_t_lands a_t_owners a_t_treeWalls a_t_treePlaces p1_families p1_walls p1_trees p1_families p1_walls p1_trees (va_cpy p1_kinds t_kinds 0 0 6) p1_kinds (va_cpy p1_hours t_hours 0 0 6) p1_hours (va_cpy p1_lands t_lands 0 0 6) p1_lands (va_cpy p1_owners t_owners 0 0 18) p1_owners (va_cpy p1_treeWalls t_treeWalls 0 0 6) p1_treeWalls t_treePlaces p1_treePlaces) := hD
  refine lv_aload_n hx hb dX1_takeOver_114 rfl (lv_at hl 1 rfl) ?_
  refine va_get (D := D) (ci := 1) (v := .ref a_p1_treePlaces) (C := RX1) (T := TX1) (N := 9) hx hb hts in_X1_takeOver_X1 hown hK hP 0 rfl rfl 8 (by decide) (hts _ m_X1_takeOver_f27) (fun _ h9 => h9) rfl dX1_takeOver_115 ?_
  refine lv_iconst (v := 0) hx hb dX1_takeOver_118 (by decide) ?_
  refine lv_aload_n hx hb dX1_takeOver_119 rfl (lv_at hl 0 rfl) ?_
  refine va_get (D := D) (ci := 1) (v := .ref a_t_treePlaces) (C := RX1) (T := TX1) (N := 9) hx hb hts in_X1_takeOver_X1 hown hK hP 1 rfl rfl 8 (by decide) (hts _ m_X1_takeOver_f27) (fun _ h9 => h9) rfl dX1_takeOver_120 ?_
  refine lv_iconst (v := 0) hx hb dX1_takeOver_123 (by decide) ?_
  refine lv_aload_n hx hb dX1_takeOver_124 rfl (lv_at hl 0 rfl) ?_
  refine va_get (D := D) (ci := 1) (v := .ref a_t_treePlaces) (C := RX1) (T := TX1) (N := 9) hx hb hts in_X1_takeOver_X1 hown hK hP 1 rfl rfl 8 (by decide) (hts _ m_X1_takeOver_f27) (fun _ h9 => h9) rfl dX1_takeOver_125 ?_
  refine va_alen (D := D) (v := 6) hx hb hK hP 12 0 rfl rfl rfl dX1_takeOver_128 ?_
  refine hcopy (D := D) X hP hD hS hl.1 13 12 0 rfl rfl rfl rfl m_X1_takeOver_l40 m_X1_takeOver_nat m_X1_takeOver_sta m_X1_takeOver_ini (n := 6) (k := 6) (by decide) rfl (by decide) (by decide) (fun _ _ => rfl) (Nat.le_of_ble_eq_true rfl) (Nat.le_of_ble_eq_true rfl) dX1_takeOver_129 (fun H locs hP hD hS => ?_)
  have hP : va_P D vwCl (wX1_takeOver cI cC cB cS a_p1 a_p1_kinds a_p1_hours a_p1_lands a_p1_owners a_p1_treeWalls a_p1_treePlaces a_t a_t_kinds a_t_hours a_t_lands a_t_owners a_t_treeWalls a_t_treePlaces p1_families p1_walls p1_trees p1_families p1_walls p1_trees (va_cpy p1_kinds t_kinds 0 0 6) p1_kinds (va_cpy p1_hours t_hours 0 0 6) p1_hours (va_cpy p1_lands t_lands 0 0 6) p1_lands (va_cpy p1_owners t_owners 0 0 18) p1_owners (va_cpy p1_treeWalls t_treeWalls 0 0 6) p1_treeWalls (va_cpy p1_treePlaces t_treePlaces 0 0 6) p1_treePlaces) H := hP
  have hD : va_D A (wX1_takeOver cI cC cB cS a_p1 a_p1_kinds a_p1_hours a_p1_lands a_p1_owners a_p1_treeWalls a_p1_treePlaces a_t a_t_kinds a_t_hours a_t_lands a_t_owners a_t_treeWalls a_t_treePlaces p1_families p1_walls p1_trees p1_families p1_walls p1_trees (va_cpy p1_kinds t_kinds 0 0 6) p1_kinds (va_cpy p1_hours t_hours 0 0 6) p1_hours (va_cpy p1_lands t_lands 0 0 6) p1_lands (va_cpy p1_owners t_owners 0 0 18) p1_owners (va_cpy p1_treeWalls t_treeWalls 0 0 6) p1_treeWalls (va_cpy p1_treePlaces t_treePlaces 0 0 6) p1_treePlaces) := hD
  exact hret (p1_families, p1_walls, p1_trees, (va_cpy p1_kinds t_kinds 0 0 6), (va_cpy p1_hours t_hours 0 0 6), (va_cpy p1_lands t_lands 0 0 6), (va_cpy p1_owners t_owners 0 0 18), (va_cpy p1_treeWalls t_treeWalls 0 0 6), (va_cpy p1_treePlaces t_treePlaces 0 0 6)) dX1_takeOver_132 hp hP hD hS
theorem c_X1_takeOver (l : Launch) (D : va_G) (cI cC cB cS : ClassId) (a_p1 a_p1_kinds a_p1_hours a_p1_lands a_p1_owners a_p1_treeWalls a_p1_treePlaces a_t a_t_kinds a_t_hours a_t_lands a_t_owners a_t_treeWalls a_t_treePlaces : Nat) (p1_families : Int32) (p1_walls : Int32) (p1_trees : Int32) (t_families : Int32) (t_walls : Int32) (t_trees : Int32) (t_kinds : Nat → Int32) (p1_kinds : Nat → Int32) (t_hours : Nat → Int32) (p1_hours : Nat → Int32) (t_lands : Nat → Int32) (p1_lands : Nat → Int32) (t_owners : Nat → Int32) (p1_owners : Nat → Int32) (t_treeWalls : Nat → Int32) (p1_treeWalls : Nat → Int32) (t_treePlaces : Nat → Int32) (p1_treePlaces : Nat → Int32)  {post : Int32 → Int32 → Int32 → (Nat → Int32) → (Nat → Int32) → (Nat → Int32) → (Nat → Int32) → (Nat → Int32) → (Nat → Int32) → Prop} (hp : P_X1_takeOver  p1_families p1_walls p1_trees t_families t_walls t_trees t_kinds p1_kinds t_hours p1_hours t_lands p1_lands t_owners p1_owners t_treeWalls p1_treeWalls t_treePlaces p1_treePlaces post) : CtrV l yX1_takeOver wsX1_takeOver rmX1_takeOver D (tyL cI cC cB cS) [.ref a_t, .ref a_p1] (wX1_takeOver cI cC cB cS a_p1 a_p1_kinds a_p1_hours a_p1_lands a_p1_owners a_p1_treeWalls a_p1_treePlaces a_t a_t_kinds a_t_hours a_t_lands a_t_owners a_t_treeWalls a_t_treePlaces p1_families p1_walls p1_trees t_families t_walls t_trees t_kinds p1_kinds t_hours p1_hours t_lands p1_lands t_owners p1_owners t_treeWalls p1_treeWalls t_treePlaces p1_treePlaces) (fun (u : Int32 × Int32 × Int32 × (Nat → Int32) × (Nat → Int32) × (Nat → Int32) × (Nat → Int32) × (Nat → Int32) × (Nat → Int32)) => post u.1 u.2.1 u.2.2.1 u.2.2.2.1 u.2.2.2.2.1 u.2.2.2.2.2.1 u.2.2.2.2.2.2.1 u.2.2.2.2.2.2.2.1 u.2.2.2.2.2.2.2.2) (fun u => (wX1_takeOver cI cC cB cS a_p1 a_p1_kinds a_p1_hours a_p1_lands a_p1_owners a_p1_treeWalls a_p1_treePlaces a_t a_t_kinds a_t_hours a_t_lands a_t_owners a_t_treeWalls a_t_treePlaces p1_families p1_walls p1_trees u.1 u.2.1 u.2.2.1 u.2.2.2.1 p1_kinds u.2.2.2.2.1 p1_hours u.2.2.2.2.2.1 p1_lands u.2.2.2.2.2.2.1 p1_owners u.2.2.2.2.2.2.2.1 p1_treeWalls u.2.2.2.2.2.2.2.2 p1_treePlaces)) 0 0 :=
  ctrV_of (cc := cX1_takeOver) (maxL := 2) (by decide) rfl (Nat.le_of_ble_eq_true rfl) (fun X hret _ _ _ hP hD hS hl => k_X1_takeOver l D cI cC cB cS a_p1 a_p1_kinds a_p1_hours a_p1_lands a_p1_owners a_p1_treeWalls a_p1_treePlaces a_t a_t_kinds a_t_hours a_t_lands a_t_owners a_t_treeWalls a_t_treePlaces p1_families p1_walls p1_trees t_families t_walls t_trees t_kinds p1_kinds t_hours p1_hours t_lands p1_lands t_owners p1_owners t_treeWalls p1_treeWalls t_treePlaces p1_treePlaces hp X hret hP hD hS hl)
-- within(III)Z
abbrev rmX8_within : Room := { frames := 0, cells := 0, slots := 0, locals := 0 }
abbrev wX8_within (cI cC cB cS : ClassId)   : va_W := []
theorem hNm_X8_within : hNm yX8_within 3 := by decide +kernel
def P_X8_within (x0 : Int32) (x1 : Int32) (x2 : Int32)  (post : Int32 → Prop) : Prop := (x0 < x1 → post (0 : Int32)) ∧ (¬ x0 < x1 → (x2 < x0 → post (0 : Int32)) ∧ (¬ x2 < x0 → post (1 : Int32)))
set_option maxHeartbeats 4000000 in
set_option maxRecDepth 100000 in
theorem k_X8_within (l : Launch) (D : va_G) (cI cC cB cS : ClassId)   (x0 : Int32) (x1 : Int32) (x2 : Int32) {post : Int32 → Prop} (hp : P_X8_within x0 x1 x2  post) {p : Program} {e : Env} {s : State} {m : MethodId} {args : Array Value} {below : List Frame} {meth : Method} {c : Code} {Q : State → Prop} {A : Nat → Prop} {H0 : Heap} (X : WCtx p s m args c cX8_within 3 wsX8_within RX8 H0 A D (tyL cI cC cB cS)) (hret : ∀ {pc : Nat} {ls : Array Slot} {H : Heap} {locs : List Loc} {r : Int32} (u : Unit), decode cX8_within pc = .ok (.ireturn, 1) → zb r → post r  → va_P D vwCl (wX8_within cI cC cB cS) H → va_D A (wX8_within cI cC cB cS) → va_S A H0 H locs → W p l e rmX8_within s m args below meth c H locs 0 0 Q (F0 m pc ls [.int r])) {H : Heap} {locs : List Loc} {ls : Array Slot} (hP : va_P D vwCl (wX8_within cI cC cB cS) H) (hD : va_D A (wX8_within cI cC cB cS)) (hS : va_S A H0 H locs) (hl : lv_has ls 3 [(0, .int x0), (1, .int x1), (2, .int x2)]) : W p l e rmX8_within s m args below meth c H locs 0 0 Q (F0 m 0 ls []) := by
  obtain ⟨⟨hx, hb, hml, hown, hts⟩, hA, hK, hN⟩ := id X
  unfold P_X8_within at hp
  refine lv_iload_n hx hb dX8_within_0 rfl (lv_at hl 0 rfl) ?_
  refine lv_iload_n hx hb dX8_within_1 rfl (lv_at hl 1 rfl) ?_
  refine lv_icmp_lt (tgt := 14) hx hb dX8_within_2 (by decide) (fun hc => ?_) (fun hc => ?_)
  · have hp := hp.1 hc
    refine lv_iconst (v := 0) hx hb dX8_within_14 (by decide) ?_
    exact hret () dX8_within_15 zb0 hp hP hD hS
  · have hp := hp.2 hc
    refine lv_iload_n hx hb dX8_within_5 rfl (lv_at hl 0 rfl) ?_
    refine lv_iload_n hx hb dX8_within_6 rfl (lv_at hl 2 rfl) ?_
    refine lv_icmp_gt (tgt := 14) hx hb dX8_within_7 (by decide) (fun hc => ?_) (fun hc => ?_)
    · have hp := hp.1 hc
      refine lv_iconst (v := 0) hx hb dX8_within_14 (by decide) ?_
      exact hret () dX8_within_15 zb0 hp hP hD hS
    · have hp := hp.2 hc
      refine lv_iconst (v := 1) hx hb dX8_within_10 (by decide) ?_
      refine lv_goto (tgt := 15) hx hb dX8_within_11 (by decide) ?_
      exact hret () dX8_within_15 zb1 hp hP hD hS
theorem c_X8_within (l : Launch) (D : va_G) (cI cC cB cS : ClassId)   (x0 : Int32) (x1 : Int32) (x2 : Int32) {post : Int32 → Prop} (hp : P_X8_within x0 x1 x2  post) : CtrI l yX8_within wsX8_within rmX8_within D (tyL cI cC cB cS) [.int x0, .int x1, .int x2] (wX8_within cI cC cB cS) (fun r (u : Unit) => post r ) (fun u => (wX8_within cI cC cB cS)) 0 0 :=
  ctrZ_of (cc := cX8_within) (maxL := 3) (by decide) rfl (Nat.le_of_ble_eq_true rfl) (fun X hret _ _ _ hP hD hS hl => k_X8_within l D cI cC cB cS x0 x1 x2 hp X hret hP hD hS hl)
-- addFamily(III)Z
abbrev rmX1_addFamily : Room := { frames := 1, cells := 0, slots := 0, locals := 22 }
abbrev wX1_addFamily (cI cC cB cS : ClassId) (a_t a_t_kinds a_t_hours a_t_lands a_t_owners a_t_treeWalls a_t_treePlaces : Nat) (t_families : Int32) (t_walls : Int32) (t_trees : Int32) (t_kinds : Nat → Int32) (t_hours : Nat → Int32) (t_lands : Nat → Int32) : va_W := [(a_t, .inr (1, [.int t_families, .int t_walls, .int t_trees, .ref a_t_kinds, .ref a_t_hours, .ref a_t_lands, .ref a_t_owners, .ref a_t_treeWalls, .ref a_t_treePlaces])), (a_t_kinds, .inl (cI, 6, .inl t_kinds)), (a_t_hours, .inl (cI, 6, .inl t_hours)), (a_t_lands, .inl (cI, 6, .inl t_lands))]
theorem hNm_X1_addFamily : hNm yX1_addFamily 3 := by decide +kernel
theorem m_X1_addFamily_f30 : Cond.fieldLink RX1 30 "LeaningWalls$County" "families" "I" ∈ wsX1_addFamily := by decide +kernel
theorem in_X1_addFamily_X1 : ∀ w ∈ wsX10, w ∈ wsX1_addFamily := by decide +kernel
theorem m_X1_addFamily_i46 : Cond.initialized (yX8_within).cls ∈ wsX1_addFamily := by decide +kernel
theorem m_X1_addFamily_s46 : Cond.static yX8_within ∈ wsX1_addFamily := by decide +kernel
theorem m_X1_addFamily_f9 : Cond.fieldLink RX1 9 "LeaningWalls$County" "kinds" "[I" ∈ wsX1_addFamily := by decide +kernel
theorem m_X1_addFamily_f15 : Cond.fieldLink RX1 15 "LeaningWalls$County" "hours" "[I" ∈ wsX1_addFamily := by decide +kernel
theorem m_X1_addFamily_f18 : Cond.fieldLink RX1 18 "LeaningWalls$County" "lands" "[I" ∈ wsX1_addFamily := by decide +kernel
def P_X1_addFamily (x1 : Int32) (x2 : Int32) (x3 : Int32) (t_families : Int32) (t_kinds : Nat → Int32) (t_hours : Nat → Int32) (t_lands : Nat → Int32) (post : Int32 → Int32 → (Nat → Int32) → (Nat → Int32) → (Nat → Int32) → Prop) : Prop := ((6 : Int32) ≤ t_families → post (0 : Int32) t_families t_kinds t_hours t_lands) ∧ (¬ (6 : Int32) ≤ t_families → P_X8_within x1 (0 : Int32) (4 : Int32) (fun r12 => (r12 = 0 → post (0 : Int32) t_families t_kinds t_hours t_lands) ∧ (¬ r12 = 0 → P_X8_within x2 (0 : Int32) (12 : Int32) (fun r22 => (r22 = 0 → post (0 : Int32) t_families t_kinds t_hours t_lands) ∧ (¬ r22 = 0 → P_X8_within x3 (0 : Int32) (99 : Int32) (fun r32 => (¬ r32 = 0 → vp_in t_families 6 ∧ (vp_in t_families 6 ∧ (vp_in t_families 6 ∧ (post (1 : Int32) (t_families + (1 : Int32)) (upd t_kinds t_families.toNatClampNeg x1) (upd t_hours t_families.toNatClampNeg x2) (upd t_lands t_families.toNatClampNeg x3))))) ∧ (r32 = 0 → post (0 : Int32) t_families t_kinds t_hours t_lands)))))))
set_option maxHeartbeats 4000000 in
set_option maxRecDepth 100000 in
theorem k_X1_addFamily (l : Launch) (D : va_G) (cI cC cB cS : ClassId) (a_t a_t_kinds a_t_hours a_t_lands a_t_owners a_t_treeWalls a_t_treePlaces : Nat) (t_families : Int32) (t_walls : Int32) (t_trees : Int32) (t_kinds : Nat → Int32) (t_hours : Nat → Int32) (t_lands : Nat → Int32) (x1 : Int32) (x2 : Int32) (x3 : Int32) {post : Int32 → Int32 → (Nat → Int32) → (Nat → Int32) → (Nat → Int32) → Prop} (hp : P_X1_addFamily x1 x2 x3 t_families t_kinds t_hours t_lands post) {p : Program} {e : Env} {s : State} {m : MethodId} {args : Array Value} {below : List Frame} {meth : Method} {c : Code} {Q : State → Prop} {A : Nat → Prop} {H0 : Heap} (X : WCtx p s m args c cX1_addFamily 4 wsX1_addFamily RX1 H0 A D (tyL cI cC cB cS)) (hret : ∀ {pc : Nat} {ls : Array Slot} {H : Heap} {locs : List Loc} {r : Int32} (u : Int32 × (Nat → Int32) × (Nat → Int32) × (Nat → Int32)), decode cX1_addFamily pc = .ok (.ireturn, 1) → zb r → post r u.1 u.2.1 u.2.2.1 u.2.2.2 → va_P D vwCl (wX1_addFamily cI cC cB cS a_t a_t_kinds a_t_hours a_t_lands a_t_owners a_t_treeWalls a_t_treePlaces u.1 t_walls t_trees u.2.1 u.2.2.1 u.2.2.2) H → va_D A (wX1_addFamily cI cC cB cS a_t a_t_kinds a_t_hours a_t_lands a_t_owners a_t_treeWalls a_t_treePlaces u.1 t_walls t_trees u.2.1 u.2.2.1 u.2.2.2) → va_S A H0 H locs → W p l e rmX1_addFamily s m args below meth c H locs 0 0 Q (F0 m pc ls [.int r])) {H : Heap} {locs : List Loc} {ls : Array Slot} (hP : va_P D vwCl (wX1_addFamily cI cC cB cS a_t a_t_kinds a_t_hours a_t_lands a_t_owners a_t_treeWalls a_t_treePlaces t_families t_walls t_trees t_kinds t_hours t_lands) H) (hD : va_D A (wX1_addFamily cI cC cB cS a_t a_t_kinds a_t_hours a_t_lands a_t_owners a_t_treeWalls a_t_treePlaces t_families t_walls t_trees t_kinds t_hours t_lands)) (hS : va_S A H0 H locs) (hl : lv_has ls 4 [(0, .ref a_t), (1, .int x1), (2, .int x2), (3, .int x3)]) : W p l e rmX1_addFamily s m args below meth c H locs 0 0 Q (F0 m 0 ls []) := by
  obtain ⟨⟨hx, hb, hml, hown, hts⟩, hA, hK, hN⟩ := id X
  unfold P_X1_addFamily at hp
  refine lv_aload_n hx hb dX1_addFamily_0 rfl (lv_at hl 0 rfl) ?_
  refine va_get (D := D) (ci := 1) (v := .int t_families) (C := RX1) (T := TX1) (N := 9) hx hb hts in_X1_addFamily_X1 hown hK hP 0 rfl rfl 0 (by decide) (hts _ m_X1_addFamily_f30) (fun _ h9 => h9) rfl dX1_addFamily_1 ?_
  refine lv_bipush (v := 6) hx hb dX1_addFamily_4 (by decide) ?_
  refine lv_icmp_ge (tgt := 38) hx hb dX1_addFamily_6 (by decide) (fun hc => ?_) (fun hc => ?_)
  · have hp := hp.1 hc
    refine lv_iconst (v := 0) hx hb dX1_addFamily_38 (by decide) ?_
    exact hret (t_families, t_kinds, t_hours, t_lands) dX1_addFamily_39 zb0 hp hP hD hS
  · have hp := hp.2 hc
    refine lv_iload_n hx hb dX1_addFamily_9 rfl (lv_at hl 1 rfl) ?_
    refine lv_iconst (v := 0) hx hb dX1_addFamily_10 (by decide) ?_
    refine lv_iconst (v := 4) hx hb dX1_addFamily_11 (by decide) ?_
    refine hcN_i (As := [.int x1, .int (0 : Int32), .int (4 : Int32)]) (rest := []) (fun u => (wX1_addFamily cI cC cB cS a_t a_t_kinds a_t_hours a_t_lands a_t_owners a_t_treeWalls a_t_treePlaces t_families t_walls t_trees t_kinds t_hours t_lands)) X hP hD hS hl.1 [] [0, 1, 2, 3] [0, 1, 2, 3] 3 (@c_X8_within l D cI cC cB cS x1 (0 : Int32) (4 : Int32) _ hp) ⟨rfl, rfl⟩ (fun _ => rfl) (by decide +kernel) ggX1_addFamily_X8_within rfl rfl rfl (by decide +kernel) m_X1_addFamily_i46 m_X1_addFamily_s46 hNm_X8_within ⟨Nat.le_of_ble_eq_true rfl, Nat.le_of_ble_eq_true rfl⟩ rfl rfl (Nat.le_of_ble_eq_true rfl) dX1_addFamily_12 ⟨Nat.le_of_ble_eq_true rfl, Nat.le_of_ble_eq_true rfl⟩ (fun r12 _ H locs hp hP hD hS => ?_)
    try dsimp only at hp
    have hP : va_P D vwCl (wX1_addFamily cI cC cB cS a_t a_t_kinds a_t_hours a_t_lands a_t_owners a_t_treeWalls a_t_treePlaces t_families t_walls t_trees t_kinds t_hours t_lands) H := hP
    have hD : va_D A (wX1_addFamily cI cC cB cS a_t a_t_kinds a_t_hours a_t_lands a_t_owners a_t_treeWalls a_t_treePlaces t_families t_walls t_trees t_kinds t_hours t_lands) := hD
    refine lv_if_eq (tgt := 38) hx hb dX1_addFamily_15 (by decide) (fun hc => ?_) (fun hc => ?_)
    · have hp := hp.1 hc
      refine lv_iconst (v := 0) hx hb dX1_addFamily_38 (by decide) ?_
      exact hret (t_families, t_kinds, t_hours, t_lands) dX1_addFamily_39 zb0 hp hP hD hS
    · have hp := hp.2 hc
      refine lv_iload_n hx hb dX1_addFamily_18 rfl (lv_at hl 2 rfl) ?_
      refine lv_iconst (v := 0) hx hb dX1_addFamily_19 (by decide) ?_
      refine lv_bipush (v := 12) hx hb dX1_addFamily_20 (by decide) ?_
      refine hcN_i (As := [.int x2, .int (0 : Int32), .int (12 : Int32)]) (rest := []) (fun u => (wX1_addFamily cI cC cB cS a_t a_t_kinds a_t_hours a_t_lands a_t_owners a_t_treeWalls a_t_treePlaces t_families t_walls t_trees t_kinds t_hours t_lands)) X hP hD hS hl.1 [] [0, 1, 2, 3] [0, 1, 2, 3] 3 (@c_X8_within l D cI cC cB cS x2 (0 : Int32) (12 : Int32) _ hp) ⟨rfl, rfl⟩ (fun _ => rfl) (by decide +kernel) ggX1_addFamily_X8_within rfl rfl rfl (by decide +kernel) m_X1_addFamily_i46 m_X1_addFamily_s46 hNm_X8_within ⟨Nat.le_of_ble_eq_true rfl, Nat.le_of_ble_eq_true rfl⟩ rfl rfl (Nat.le_of_ble_eq_true rfl) dX1_addFamily_22 ⟨Nat.le_of_ble_eq_true rfl, Nat.le_of_ble_eq_true rfl⟩ (fun r22 _ H locs hp hP hD hS => ?_)
      try dsimp only at hp
      have hP : va_P D vwCl (wX1_addFamily cI cC cB cS a_t a_t_kinds a_t_hours a_t_lands a_t_owners a_t_treeWalls a_t_treePlaces t_families t_walls t_trees t_kinds t_hours t_lands) H := hP
      have hD : va_D A (wX1_addFamily cI cC cB cS a_t a_t_kinds a_t_hours a_t_lands a_t_owners a_t_treeWalls a_t_treePlaces t_families t_walls t_trees t_kinds t_hours t_lands) := hD
      refine lv_if_eq (tgt := 38) hx hb dX1_addFamily_25 (by decide) (fun hc => ?_) (fun hc => ?_)
      · have hp := hp.1 hc
        refine lv_iconst (v := 0) hx hb dX1_addFamily_38 (by decide) ?_
        exact hret (t_families, t_kinds, t_hours, t_lands) dX1_addFamily_39 zb0 hp hP hD hS
      · have hp := hp.2 hc
        refine lv_iload_n hx hb dX1_addFamily_28 rfl (lv_at hl 3 rfl) ?_
        refine lv_iconst (v := 0) hx hb dX1_addFamily_29 (by decide) ?_
        refine lv_bipush (v := 99) hx hb dX1_addFamily_30 (by decide) ?_
        refine hcN_i (As := [.int x3, .int (0 : Int32), .int (99 : Int32)]) (rest := []) (fun u => (wX1_addFamily cI cC cB cS a_t a_t_kinds a_t_hours a_t_lands a_t_owners a_t_treeWalls a_t_treePlaces t_families t_walls t_trees t_kinds t_hours t_lands)) X hP hD hS hl.1 [] [0, 1, 2, 3] [0, 1, 2, 3] 3 (@c_X8_within l D cI cC cB cS x3 (0 : Int32) (99 : Int32) _ hp) ⟨rfl, rfl⟩ (fun _ => rfl) (by decide +kernel) ggX1_addFamily_X8_within rfl rfl rfl (by decide +kernel) m_X1_addFamily_i46 m_X1_addFamily_s46 hNm_X8_within ⟨Nat.le_of_ble_eq_true rfl, Nat.le_of_ble_eq_true rfl⟩ rfl rfl (Nat.le_of_ble_eq_true rfl) dX1_addFamily_32 ⟨Nat.le_of_ble_eq_true rfl, Nat.le_of_ble_eq_true rfl⟩ (fun r32 _ H locs hp hP hD hS => ?_)
        try dsimp only at hp
        have hP : va_P D vwCl (wX1_addFamily cI cC cB cS a_t a_t_kinds a_t_hours a_t_lands a_t_owners a_t_treeWalls a_t_treePlaces t_families t_walls t_trees t_kinds t_hours t_lands) H := hP
        have hD : va_D A (wX1_addFamily cI cC cB cS a_t a_t_kinds a_t_hours a_t_lands a_t_owners a_t_treeWalls a_t_treePlaces t_families t_walls t_trees t_kinds t_hours t_lands) := hD
        refine lv_if_ne (tgt := 40) hx hb dX1_addFamily_35 (by decide) (fun hc => ?_) (fun hc => ?_)
        · have hp := hp.1 hc
          refine lv_aload_n hx hb dX1_addFamily_40 rfl (lv_at hl 0 rfl) ?_
          refine va_get (D := D) (ci := 1) (v := .ref a_t_kinds) (C := RX1) (T := TX1) (N := 9) hx hb hts in_X1_addFamily_X1 hown hK hP 0 rfl rfl 3 (by decide) (hts _ m_X1_addFamily_f9) (fun _ h9 => h9) rfl dX1_addFamily_41 ?_
          refine lv_aload_n hx hb dX1_addFamily_44 rfl (lv_at hl 0 rfl) ?_
          refine va_get (D := D) (ci := 1) (v := .int t_families) (C := RX1) (T := TX1) (N := 9) hx hb hts in_X1_addFamily_X1 hown hK hP 0 rfl rfl 0 (by decide) (hts _ m_X1_addFamily_f30) (fun _ h9 => h9) rfl dX1_addFamily_45 ?_
          refine lv_iload_n hx hb dX1_addFamily_48 rfl (lv_at hl 1 rfl) ?_
          obtain ⟨hi, hp⟩ := hp
          refine va_iast (D := D) hx hb hK hP hD hS 1 0 rfl rfl hi dX1_addFamily_49 (fun H locs hP hD hS => ?_)
          have hP : va_P D vwCl (wX1_addFamily cI cC cB cS a_t a_t_kinds a_t_hours a_t_lands a_t_owners a_t_treeWalls a_t_treePlaces t_families t_walls t_trees (upd t_kinds t_families.toNatClampNeg x1) t_hours t_lands) H := hP
          have hD : va_D A (wX1_addFamily cI cC cB cS a_t a_t_kinds a_t_hours a_t_lands a_t_owners a_t_treeWalls a_t_treePlaces t_families t_walls t_trees (upd t_kinds t_families.toNatClampNeg x1) t_hours t_lands) := hD
          refine lv_aload_n hx hb dX1_addFamily_50 rfl (lv_at hl 0 rfl) ?_
          refine va_get (D := D) (ci := 1) (v := .ref a_t_hours) (C := RX1) (T := TX1) (N := 9) hx hb hts in_X1_addFamily_X1 hown hK hP 0 rfl rfl 4 (by decide) (hts _ m_X1_addFamily_f15) (fun _ h9 => h9) rfl dX1_addFamily_51 ?_
          refine lv_aload_n hx hb dX1_addFamily_54 rfl (lv_at hl 0 rfl) ?_
          refine va_get (D := D) (ci := 1) (v := .int t_families) (C := RX1) (T := TX1) (N := 9) hx hb hts in_X1_addFamily_X1 hown hK hP 0 rfl rfl 0 (by decide) (hts _ m_X1_addFamily_f30) (fun _ h9 => h9) rfl dX1_addFamily_55 ?_
          refine lv_iload_n hx hb dX1_addFamily_58 rfl (lv_at hl 2 rfl) ?_
          obtain ⟨hi, hp⟩ := hp
          refine va_iast (D := D) hx hb hK hP hD hS 2 0 rfl rfl hi dX1_addFamily_59 (fun H locs hP hD hS => ?_)
          have hP : va_P D vwCl (wX1_addFamily cI cC cB cS a_t a_t_kinds a_t_hours a_t_lands a_t_owners a_t_treeWalls a_t_treePlaces t_families t_walls t_trees (upd t_kinds t_families.toNatClampNeg x1) (upd t_hours t_families.toNatClampNeg x2) t_lands) H := hP
          have hD : va_D A (wX1_addFamily cI cC cB cS a_t a_t_kinds a_t_hours a_t_lands a_t_owners a_t_treeWalls a_t_treePlaces t_families t_walls t_trees (upd t_kinds t_families.toNatClampNeg x1) (upd t_hours t_families.toNatClampNeg x2) t_lands) := hD
          refine lv_aload_n hx hb dX1_addFamily_60 rfl (lv_at hl 0 rfl) ?_
          refine va_get (D := D) (ci := 1) (v := .ref a_t_lands) (C := RX1) (T := TX1) (N := 9) hx hb hts in_X1_addFamily_X1 hown hK hP 0 rfl rfl 5 (by decide) (hts _ m_X1_addFamily_f18) (fun _ h9 => h9) rfl dX1_addFamily_61 ?_
          refine lv_aload_n hx hb dX1_addFamily_64 rfl (lv_at hl 0 rfl) ?_
          refine va_get (D := D) (ci := 1) (v := .int t_families) (C := RX1) (T := TX1) (N := 9) hx hb hts in_X1_addFamily_X1 hown hK hP 0 rfl rfl 0 (by decide) (hts _ m_X1_addFamily_f30) (fun _ h9 => h9) rfl dX1_addFamily_65 ?_
          refine lv_iload_n hx hb dX1_addFamily_68 rfl (lv_at hl 3 rfl) ?_
          obtain ⟨hi, hp⟩ := hp
          refine va_iast (D := D) hx hb hK hP hD hS 3 0 rfl rfl hi dX1_addFamily_69 (fun H locs hP hD hS => ?_)
          have hP : va_P D vwCl (wX1_addFamily cI cC cB cS a_t a_t_kinds a_t_hours a_t_lands a_t_owners a_t_treeWalls a_t_treePlaces t_families t_walls t_trees (upd t_kinds t_families.toNatClampNeg x1) (upd t_hours t_families.toNatClampNeg x2) (upd t_lands t_families.toNatClampNeg x3)) H := hP
          have hD : va_D A (wX1_addFamily cI cC cB cS a_t a_t_kinds a_t_hours a_t_lands a_t_owners a_t_treeWalls a_t_treePlaces t_families t_walls t_trees (upd t_kinds t_families.toNatClampNeg x1) (upd t_hours t_families.toNatClampNeg x2) (upd t_lands t_families.toNatClampNeg x3)) := hD
          refine lv_aload_n hx hb dX1_addFamily_70 rfl (lv_at hl 0 rfl) ?_
          refine lv_dup hx hb dX1_addFamily_71 rfl ?_
          refine va_get (D := D) (ci := 1) (v := .int t_families) (C := RX1) (T := TX1) (N := 9) hx hb hts in_X1_addFamily_X1 hown hK hP 0 rfl rfl 0 (by decide) (hts _ m_X1_addFamily_f30) (fun _ h9 => h9) rfl dX1_addFamily_72 ?_
          refine lv_iconst (v := 1) hx hb dX1_addFamily_75 (by decide) ?_
          refine lv_iadd hx hb dX1_addFamily_76 ?_
          refine va_put (D := D) (ci := 1) (v := .int (t_families + (1 : Int32))) (ty := .int) (C := RX1) (T := TX1) (N := 9) hx hb hts in_X1_addFamily_X1 tyX1 tyX1_ok nmX1 hown hK hP hD hS 0 rfl rfl 0 (by decide) (hts _ m_X1_addFamily_f30) (fun _ h9 => h9) rfl (by decide +kernel) rfl rfl (Nat.le_of_ble_eq_true rfl) dX1_addFamily_77 (fun H locs hP hD hS => ?_)
          have hP : va_P D vwCl (wX1_addFamily cI cC cB cS a_t a_t_kinds a_t_hours a_t_lands a_t_owners a_t_treeWalls a_t_treePlaces (t_families + (1 : Int32)) t_walls t_trees (upd t_kinds t_families.toNatClampNeg x1) (upd t_hours t_families.toNatClampNeg x2) (upd t_lands t_families.toNatClampNeg x3)) H := hP
          have hD : va_D A (wX1_addFamily cI cC cB cS a_t a_t_kinds a_t_hours a_t_lands a_t_owners a_t_treeWalls a_t_treePlaces (t_families + (1 : Int32)) t_walls t_trees (upd t_kinds t_families.toNatClampNeg x1) (upd t_hours t_families.toNatClampNeg x2) (upd t_lands t_families.toNatClampNeg x3)) := hD
          refine lv_iconst (v := 1) hx hb dX1_addFamily_80 (by decide) ?_
          exact hret ((t_families + (1 : Int32)), (upd t_kinds t_families.toNatClampNeg x1), (upd t_hours t_families.toNatClampNeg x2), (upd t_lands t_families.toNatClampNeg x3)) dX1_addFamily_81 zb1 hp hP hD hS
        · have hp := hp.2 hc
          refine lv_iconst (v := 0) hx hb dX1_addFamily_38 (by decide) ?_
          exact hret (t_families, t_kinds, t_hours, t_lands) dX1_addFamily_39 zb0 hp hP hD hS
theorem c_X1_addFamily (l : Launch) (D : va_G) (cI cC cB cS : ClassId) (a_t a_t_kinds a_t_hours a_t_lands a_t_owners a_t_treeWalls a_t_treePlaces : Nat) (t_families : Int32) (t_walls : Int32) (t_trees : Int32) (t_kinds : Nat → Int32) (t_hours : Nat → Int32) (t_lands : Nat → Int32) (x1 : Int32) (x2 : Int32) (x3 : Int32) {post : Int32 → Int32 → (Nat → Int32) → (Nat → Int32) → (Nat → Int32) → Prop} (hp : P_X1_addFamily x1 x2 x3 t_families t_kinds t_hours t_lands post) : CtrI l yX1_addFamily wsX1_addFamily rmX1_addFamily D (tyL cI cC cB cS) [.ref a_t, .int x1, .int x2, .int x3] (wX1_addFamily cI cC cB cS a_t a_t_kinds a_t_hours a_t_lands a_t_owners a_t_treeWalls a_t_treePlaces t_families t_walls t_trees t_kinds t_hours t_lands) (fun r (u : Int32 × (Nat → Int32) × (Nat → Int32) × (Nat → Int32)) => post r u.1 u.2.1 u.2.2.1 u.2.2.2) (fun u => (wX1_addFamily cI cC cB cS a_t a_t_kinds a_t_hours a_t_lands a_t_owners a_t_treeWalls a_t_treePlaces u.1 t_walls t_trees u.2.1 u.2.2.1 u.2.2.2)) 0 0 :=
  ctrZ_of (cc := cX1_addFamily) (maxL := 4) (by decide) rfl (Nat.le_of_ble_eq_true rfl) (fun X hret _ _ _ hP hD hS hl => k_X1_addFamily l D cI cC cB cS a_t a_t_kinds a_t_hours a_t_lands a_t_owners a_t_treeWalls a_t_treePlaces t_families t_walls t_trees t_kinds t_hours t_lands x1 x2 x3 hp X hret hP hD hS hl)
-- sides()I
abbrev rmX1_sides : Room := { frames := 0, cells := 0, slots := 0, locals := 0 }
abbrev wX1_sides (cI cC cB cS : ClassId) (a_t a_t_kinds a_t_hours a_t_lands a_t_owners a_t_treeWalls a_t_treePlaces : Nat) (t_families : Int32) (t_walls : Int32) (t_trees : Int32) : va_W := [(a_t, .inr (1, [.int t_families, .int t_walls, .int t_trees, .ref a_t_kinds, .ref a_t_hours, .ref a_t_lands, .ref a_t_owners, .ref a_t_treeWalls, .ref a_t_treePlaces]))]
theorem hNm_X1_sides : hNm yX1_sides 0 := by decide +kernel
theorem m_X1_sides_f34 : Cond.fieldLink RX1 34 "LeaningWalls$County" "walls" "I" ∈ wsX1_sides := by decide +kernel
theorem in_X1_sides_X1 : ∀ w ∈ wsX10, w ∈ wsX1_sides := by decide +kernel
def P_X1_sides  (t_walls : Int32) (post : Int32 → Prop) : Prop := post ((2 : Int32) * t_walls)
set_option maxHeartbeats 4000000 in
set_option maxRecDepth 100000 in
theorem k_X1_sides (l : Launch) (D : va_G) (cI cC cB cS : ClassId) (a_t a_t_kinds a_t_hours a_t_lands a_t_owners a_t_treeWalls a_t_treePlaces : Nat) (t_families : Int32) (t_walls : Int32) (t_trees : Int32)  {post : Int32 → Prop} (hp : P_X1_sides  t_walls post) {p : Program} {e : Env} {s : State} {m : MethodId} {args : Array Value} {below : List Frame} {meth : Method} {c : Code} {Q : State → Prop} {A : Nat → Prop} {H0 : Heap} (X : WCtx p s m args c cX1_sides 1 wsX1_sides RX1 H0 A D (tyL cI cC cB cS)) (hret : ∀ {pc : Nat} {ls : Array Slot} {H : Heap} {locs : List Loc} {r : Int32} (u : Unit), decode cX1_sides pc = .ok (.ireturn, 1) → post r  → va_P D vwCl (wX1_sides cI cC cB cS a_t a_t_kinds a_t_hours a_t_lands a_t_owners a_t_treeWalls a_t_treePlaces t_families t_walls t_trees) H → va_D A (wX1_sides cI cC cB cS a_t a_t_kinds a_t_hours a_t_lands a_t_owners a_t_treeWalls a_t_treePlaces t_families t_walls t_trees) → va_S A H0 H locs → W p l e rmX1_sides s m args below meth c H locs 0 0 Q (F0 m pc ls [.int r])) {H : Heap} {locs : List Loc} {ls : Array Slot} (hP : va_P D vwCl (wX1_sides cI cC cB cS a_t a_t_kinds a_t_hours a_t_lands a_t_owners a_t_treeWalls a_t_treePlaces t_families t_walls t_trees) H) (hD : va_D A (wX1_sides cI cC cB cS a_t a_t_kinds a_t_hours a_t_lands a_t_owners a_t_treeWalls a_t_treePlaces t_families t_walls t_trees)) (hS : va_S A H0 H locs) (hl : lv_has ls 1 [(0, .ref a_t)]) : W p l e rmX1_sides s m args below meth c H locs 0 0 Q (F0 m 0 ls []) := by
  obtain ⟨⟨hx, hb, hml, hown, hts⟩, hA, hK, hN⟩ := id X
  unfold P_X1_sides at hp
  refine lv_iconst (v := 2) hx hb dX1_sides_0 (by decide) ?_
  refine lv_aload_n hx hb dX1_sides_1 rfl (lv_at hl 0 rfl) ?_
  refine va_get (D := D) (ci := 1) (v := .int t_walls) (C := RX1) (T := TX1) (N := 9) hx hb hts in_X1_sides_X1 hown hK hP 0 rfl rfl 1 (by decide) (hts _ m_X1_sides_f34) (fun _ h9 => h9) rfl dX1_sides_2 ?_
  refine lv_imul hx hb dX1_sides_5 ?_
  exact hret () dX1_sides_6 hp hP hD hS
theorem c_X1_sides (l : Launch) (D : va_G) (cI cC cB cS : ClassId) (a_t a_t_kinds a_t_hours a_t_lands a_t_owners a_t_treeWalls a_t_treePlaces : Nat) (t_families : Int32) (t_walls : Int32) (t_trees : Int32)  {post : Int32 → Prop} (hp : P_X1_sides  t_walls post) : CtrI l yX1_sides wsX1_sides rmX1_sides D (tyL cI cC cB cS) [.ref a_t] (wX1_sides cI cC cB cS a_t a_t_kinds a_t_hours a_t_lands a_t_owners a_t_treeWalls a_t_treePlaces t_families t_walls t_trees) (fun r (u : Unit) => post r ) (fun u => (wX1_sides cI cC cB cS a_t a_t_kinds a_t_hours a_t_lands a_t_owners a_t_treeWalls a_t_treePlaces t_families t_walls t_trees)) 0 0 :=
  ctrI_of (cc := cX1_sides) (maxL := 1) (by decide) rfl (Nat.le_of_ble_eq_true rfl) (fun X hret _ _ _ hP hD hS hl => k_X1_sides l D cI cC cB cS a_t a_t_kinds a_t_hours a_t_lands a_t_owners a_t_treeWalls a_t_treePlaces t_families t_walls t_trees hp X hret hP hD hS hl)
-- wallsOf(I)I
abbrev rmX1_wallsOf : Room := { frames := 1, cells := 0, slots := 0, locals := 20 }
abbrev wX1_wallsOf (cI cC cB cS : ClassId) (a_t a_t_kinds a_t_hours a_t_lands a_t_owners a_t_treeWalls a_t_treePlaces : Nat) (t_families : Int32) (t_walls : Int32) (t_trees : Int32) (t_owners : Nat → Int32) : va_W := [(a_t, .inr (1, [.int t_families, .int t_walls, .int t_trees, .ref a_t_kinds, .ref a_t_hours, .ref a_t_lands, .ref a_t_owners, .ref a_t_treeWalls, .ref a_t_treePlaces])), (a_t_owners, .inl (cI, 18, .inl t_owners))]
theorem hNm_X1_wallsOf : hNm yX1_wallsOf 1 := by decide +kernel
theorem m_X1_wallsOf_f21 : Cond.fieldLink RX1 21 "LeaningWalls$County" "owners" "[I" ∈ wsX1_wallsOf := by decide +kernel
theorem in_X1_wallsOf_X1 : ∀ w ∈ wsX10, w ∈ wsX1_wallsOf := by decide +kernel
def P_X1_wallsOf_b25 (t_walls : Int32) (t_owners : Nat → Int32) (k4 : Int32 → Int32 → Int32 → Prop) (post : Int32 → Prop) (x1 : Int32) (x2 : Int32) (x3 : Int32) : Prop := k4 x1 x2 (x3 + (1 : Int32))
def P_X1_wallsOf_L4 (t_walls : Int32) (t_owners : Nat → Int32)  (post : Int32 → Prop) : Nat → Int32 → Int32 → Int32 → Prop
  | 0, _, _, _ => False
  | n4 + 1, x1, x2, x3 => P_X1_sides t_walls (fun r6 => (r6 ≤ x3 → post x2) ∧ (¬ r6 ≤ x3 → vp_in x3 18 ∧ ((¬ (t_owners x3.toNatClampNeg) = x1 → P_X1_wallsOf_b25 t_walls t_owners (P_X1_wallsOf_L4 t_walls t_owners post n4) post x1 x2 x3) ∧ ((t_owners x3.toNatClampNeg) = x1 → P_X1_wallsOf_b25 t_walls t_owners (P_X1_wallsOf_L4 t_walls t_owners post n4) post x1 (x2 + (1 : Int32)) x3))))
def P_X1_wallsOf (x1 : Int32) (t_walls : Int32) (t_owners : Nat → Int32) (post : Int32 → Prop) : Prop := ∃ n4 : Nat, P_X1_wallsOf_L4 t_walls t_owners post n4 x1 (0 : Int32) (0 : Int32)
set_option maxHeartbeats 4000000 in
set_option maxRecDepth 100000 in
theorem k_X1_wallsOf (l : Launch) (D : va_G) (cI cC cB cS : ClassId) (a_t a_t_kinds a_t_hours a_t_lands a_t_owners a_t_treeWalls a_t_treePlaces : Nat) (t_families : Int32) (t_walls : Int32) (t_trees : Int32) (t_owners : Nat → Int32) (x1 : Int32) {post : Int32 → Prop} (hp : P_X1_wallsOf x1 t_walls t_owners post) {p : Program} {e : Env} {s : State} {m : MethodId} {args : Array Value} {below : List Frame} {meth : Method} {c : Code} {Q : State → Prop} {A : Nat → Prop} {H0 : Heap} (X : WCtx p s m args c cX1_wallsOf 4 wsX1_wallsOf RX1 H0 A D (tyL cI cC cB cS)) (hret : ∀ {pc : Nat} {ls : Array Slot} {H : Heap} {locs : List Loc} {r : Int32} (u : Unit), decode cX1_wallsOf pc = .ok (.ireturn, 1) → post r  → va_P D vwCl (wX1_wallsOf cI cC cB cS a_t a_t_kinds a_t_hours a_t_lands a_t_owners a_t_treeWalls a_t_treePlaces t_families t_walls t_trees t_owners) H → va_D A (wX1_wallsOf cI cC cB cS a_t a_t_kinds a_t_hours a_t_lands a_t_owners a_t_treeWalls a_t_treePlaces t_families t_walls t_trees t_owners) → va_S A H0 H locs → W p l e rmX1_wallsOf s m args below meth c H locs 0 0 Q (F0 m pc ls [.int r])) {H : Heap} {locs : List Loc} {ls : Array Slot} (hP : va_P D vwCl (wX1_wallsOf cI cC cB cS a_t a_t_kinds a_t_hours a_t_lands a_t_owners a_t_treeWalls a_t_treePlaces t_families t_walls t_trees t_owners) H) (hD : va_D A (wX1_wallsOf cI cC cB cS a_t a_t_kinds a_t_hours a_t_lands a_t_owners a_t_treeWalls a_t_treePlaces t_families t_walls t_trees t_owners)) (hS : va_S A H0 H locs) (hl : lv_has ls 4 [(0, .ref a_t), (1, .int x1)]) : W p l e rmX1_wallsOf s m args below meth c H locs 0 0 Q (F0 m 0 ls []) := by
  obtain ⟨⟨hx, hb, hml, hown, hts⟩, hA, hK, hN⟩ := id X
  have L4 : ∀ (n4 : Nat) (x1 : Int32) (x2 : Int32) (x3 : Int32)  (H : Heap) (locs : List Loc), va_P D vwCl (wX1_wallsOf cI cC cB cS a_t a_t_kinds a_t_hours a_t_lands a_t_owners a_t_treeWalls a_t_treePlaces t_families t_walls t_trees t_owners) H → va_D A (wX1_wallsOf cI cC cB cS a_t a_t_kinds a_t_hours a_t_lands a_t_owners a_t_treeWalls a_t_treePlaces t_families t_walls t_trees t_owners) → va_S A H0 H locs → P_X1_wallsOf_L4 t_walls t_owners post n4 x1 x2 x3 → ∀ ls : Array Slot, lv_has ls 4 [(0, .ref a_t), (1, .int x1), (2, .int x2), (3, .int x3)] → W p l e rmX1_wallsOf s m args below meth c H locs 0 0 Q (F0 m 4 ls []) := by
    intro n4
    induction n4 with
    | zero => intro x1 x2 x3 H locs hP hD hS hp; exact False.elim hp
    | succ n4 ih4 =>
      have J25 : ∀ (x1 : Int32) (x2 : Int32) (x3 : Int32)  (H : Heap) (locs : List Loc), va_P D vwCl (wX1_wallsOf cI cC cB cS a_t a_t_kinds a_t_hours a_t_lands a_t_owners a_t_treeWalls a_t_treePlaces t_families t_walls t_trees t_owners) H → va_D A (wX1_wallsOf cI cC cB cS a_t a_t_kinds a_t_hours a_t_lands a_t_owners a_t_treeWalls a_t_treePlaces t_families t_walls t_trees t_owners) → va_S A H0 H locs → P_X1_wallsOf_b25 t_walls t_owners (P_X1_wallsOf_L4 t_walls t_owners post n4) post x1 x2 x3 → ∀ ls : Array Slot, lv_has ls 4 [(0, .ref a_t), (1, .int x1), (2, .int x2), (3, .int x3)] → W p l e rmX1_wallsOf s m args below meth c H locs 0 0 Q (F0 m 25 ls []) := by
        intro x1 x2 x3 H locs hP hD hS hp ls hl
        unfold P_X1_wallsOf_b25 at hp
        refine lv_iinc (v := x3 + (1 : Int32)) (lv' := [(3, .int (x3 + (1 : Int32))), (0, .ref a_t), (1, .int x1), (2, .int x2)]) hx hb dX1_wallsOf_25 hl (k := 3) rfl rfl (by decide) rfl (fun ls hl => ?_)
        refine lv_goto (tgt := 4) hx hb dX1_wallsOf_28 (by decide) ?_
        exact ih4 x1 x2 (x3 + (1 : Int32)) _ _ hP hD hS hp _ (lv_sub hl [1, 2, 3, 0] rfl)
      intro x1 x2 x3 H locs hP hD hS hp ls hl
      rw [P_X1_wallsOf_L4] at hp
      refine lv_iload_n hx hb dX1_wallsOf_4 rfl (lv_at hl 3 rfl) ?_
      refine lv_aload_n hx hb dX1_wallsOf_5 rfl (lv_at hl 0 rfl) ?_
      refine hcV_i (As := []) (rest := [.int x3]) (fun u => (wX1_wallsOf cI cC cB cS a_t a_t_kinds a_t_hours a_t_lands a_t_owners a_t_treeWalls a_t_treePlaces t_families t_walls t_trees t_owners)) X hP hD hS hl.1 [0] [1] [1, 0] 0 0 (@c_X1_sides l D cI cC cB cS a_t a_t_kinds a_t_hours a_t_lands a_t_owners a_t_treeWalls a_t_treePlaces t_families t_walls t_trees _ hp) ⟨rfl, rfl⟩ (fun _ => rfl) (by decide +kernel) gX1_wallsOf_X1_sides rfl rfl rfl rfl hNm_X1_sides ⟨Nat.le_of_ble_eq_true rfl, Nat.le_of_ble_eq_true rfl⟩ (ci := 1) rfl rfl rfl rfl (Nat.le_of_ble_eq_true rfl) dX1_wallsOf_6 ⟨Nat.le_of_ble_eq_true rfl, Nat.le_of_ble_eq_true rfl⟩ (fun r6 _ H locs hp hP hD hS => ?_)
      try dsimp only at hp
      have hP : va_P D vwCl (wX1_wallsOf cI cC cB cS a_t a_t_kinds a_t_hours a_t_lands a_t_owners a_t_treeWalls a_t_treePlaces t_families t_walls t_trees t_owners) H := hP
      have hD : va_D A (wX1_wallsOf cI cC cB cS a_t a_t_kinds a_t_hours a_t_lands a_t_owners a_t_treeWalls a_t_treePlaces t_families t_walls t_trees t_owners) := hD
      refine lv_icmp_ge (tgt := 31) hx hb dX1_wallsOf_9 (by decide) (fun hc => ?_) (fun hc => ?_)
      · have hp := hp.1 hc
        refine lv_iload_n hx hb dX1_wallsOf_31 rfl (lv_at hl 2 rfl) ?_
        exact hret () dX1_wallsOf_32 hp hP hD hS
      · have hp := hp.2 hc
        refine lv_aload_n hx hb dX1_wallsOf_12 rfl (lv_at hl 0 rfl) ?_
        refine va_get (D := D) (ci := 1) (v := .ref a_t_owners) (C := RX1) (T := TX1) (N := 9) hx hb hts in_X1_wallsOf_X1 hown hK hP 0 rfl rfl 6 (by decide) (hts _ m_X1_wallsOf_f21) (fun _ h9 => h9) rfl dX1_wallsOf_13 ?_
        refine lv_iload_n hx hb dX1_wallsOf_16 rfl (lv_at hl 3 rfl) ?_
        obtain ⟨hi, hp⟩ := hp
        refine va_iald (D := D) hx hb hK hP 1 0 rfl rfl hi dX1_wallsOf_17 ?_
        refine lv_iload_n hx hb dX1_wallsOf_18 rfl (lv_at hl 1 rfl) ?_
        refine lv_icmp_ne (tgt := 25) hx hb dX1_wallsOf_19 (by decide) (fun hc => ?_) (fun hc => ?_)
        · have hp := hp.1 hc
          exact J25 x1 x2 x3 _ _ hP hD hS hp _ (lv_sub hl [0, 1, 2, 3] rfl)
        · have hp := hp.2 hc
          refine lv_iinc (v := x2 + (1 : Int32)) (lv' := [(2, .int (x2 + (1 : Int32))), (0, .ref a_t), (1, .int x1), (3, .int x3)]) hx hb dX1_wallsOf_22 hl (k := 2) rfl rfl (by decide) rfl (fun ls hl => ?_)
          exact J25 x1 (x2 + (1 : Int32)) x3 _ _ hP hD hS hp _ (lv_sub hl [1, 2, 0, 3] rfl)
  unfold P_X1_wallsOf at hp
  refine lv_iconst (v := 0) hx hb dX1_wallsOf_0 (by decide) ?_
  refine lv_istore_n (lv' := [(2, .int (0 : Int32)), (0, .ref a_t), (1, .int x1)]) hx hb dX1_wallsOf_1 rfl hl (by decide) rfl (fun ls hl => ?_)
  refine lv_iconst (v := 0) hx hb dX1_wallsOf_2 (by decide) ?_
  refine lv_istore_n (lv' := [(3, .int (0 : Int32)), (2, .int (0 : Int32)), (0, .ref a_t), (1, .int x1)]) hx hb dX1_wallsOf_3 rfl hl (by decide) rfl (fun ls hl => ?_)
  obtain ⟨n4, hp⟩ := hp
  exact L4 n4 x1 (0 : Int32) (0 : Int32) _ _ hP hD hS hp _ (lv_sub hl [2, 3, 1, 0] rfl)
theorem c_X1_wallsOf (l : Launch) (D : va_G) (cI cC cB cS : ClassId) (a_t a_t_kinds a_t_hours a_t_lands a_t_owners a_t_treeWalls a_t_treePlaces : Nat) (t_families : Int32) (t_walls : Int32) (t_trees : Int32) (t_owners : Nat → Int32) (x1 : Int32) {post : Int32 → Prop} (hp : P_X1_wallsOf x1 t_walls t_owners post) : CtrI l yX1_wallsOf wsX1_wallsOf rmX1_wallsOf D (tyL cI cC cB cS) [.ref a_t, .int x1] (wX1_wallsOf cI cC cB cS a_t a_t_kinds a_t_hours a_t_lands a_t_owners a_t_treeWalls a_t_treePlaces t_families t_walls t_trees t_owners) (fun r (u : Unit) => post r ) (fun u => (wX1_wallsOf cI cC cB cS a_t a_t_kinds a_t_hours a_t_lands a_t_owners a_t_treeWalls a_t_treePlaces t_families t_walls t_trees t_owners)) 0 0 :=
  ctrI_of (cc := cX1_wallsOf) (maxL := 4) (by decide) rfl (Nat.le_of_ble_eq_true rfl) (fun X hret _ _ _ hP hD hS hl => k_X1_wallsOf l D cI cC cB cS a_t a_t_kinds a_t_hours a_t_lands a_t_owners a_t_treeWalls a_t_treePlaces t_families t_walls t_trees t_owners x1 hp X hret hP hD hS hl)
-- canHaveWall(I)Z
abbrev rmX1_canHaveWall : Room := { frames := 2, cells := 0, slots := 0, locals := 43 }
abbrev wX1_canHaveWall (cI cC cB cS : ClassId) (a_t a_t_kinds a_t_hours a_t_lands a_t_owners a_t_treeWalls a_t_treePlaces : Nat) (t_families : Int32) (t_walls : Int32) (t_trees : Int32) (t_owners : Nat → Int32) : va_W := [(a_t, .inr (1, [.int t_families, .int t_walls, .int t_trees, .ref a_t_kinds, .ref a_t_hours, .ref a_t_lands, .ref a_t_owners, .ref a_t_treeWalls, .ref a_t_treePlaces])), (a_t_owners, .inl (cI, 18, .inl t_owners))]
theorem hNm_X1_canHaveWall : hNm yX1_canHaveWall 1 := by decide +kernel
theorem m_X1_canHaveWall_f30 : Cond.fieldLink RX1 30 "LeaningWalls$County" "families" "I" ∈ wsX1_canHaveWall := by decide +kernel
theorem in_X1_canHaveWall_X1 : ∀ w ∈ wsX10, w ∈ wsX1_canHaveWall := by decide +kernel
theorem m_X1_canHaveWall_i46 : Cond.initialized (yX8_within).cls ∈ wsX1_canHaveWall := by decide +kernel
theorem m_X1_canHaveWall_s46 : Cond.static yX8_within ∈ wsX1_canHaveWall := by decide +kernel
def P_X1_canHaveWall (x1 : Int32) (t_families : Int32) (t_walls : Int32) (t_owners : Nat → Int32) (post : Int32 → Prop) : Prop := P_X8_within x1 (0 : Int32) (t_families - (1 : Int32)) (fun r8 => (r8 = 0 → post (0 : Int32)) ∧ (¬ r8 = 0 → P_X1_wallsOf x1 t_walls t_owners (fun r16 => ((4 : Int32) ≤ r16 → post (0 : Int32)) ∧ (¬ (4 : Int32) ≤ r16 → post (1 : Int32)))))
set_option maxHeartbeats 4000000 in
set_option maxRecDepth 100000 in
theorem k_X1_canHaveWall (l : Launch) (D : va_G) (cI cC cB cS : ClassId) (a_t a_t_kinds a_t_hours a_t_lands a_t_owners a_t_treeWalls a_t_treePlaces : Nat) (t_families : Int32) (t_walls : Int32) (t_trees : Int32) (t_owners : Nat → Int32) (x1 : Int32) {post : Int32 → Prop} (hp : P_X1_canHaveWall x1 t_families t_walls t_owners post) {p : Program} {e : Env} {s : State} {m : MethodId} {args : Array Value} {below : List Frame} {meth : Method} {c : Code} {Q : State → Prop} {A : Nat → Prop} {H0 : Heap} (X : WCtx p s m args c cX1_canHaveWall 2 wsX1_canHaveWall RX1 H0 A D (tyL cI cC cB cS)) (hret : ∀ {pc : Nat} {ls : Array Slot} {H : Heap} {locs : List Loc} {r : Int32} (u : Unit), decode cX1_canHaveWall pc = .ok (.ireturn, 1) → zb r → post r  → va_P D vwCl (wX1_canHaveWall cI cC cB cS a_t a_t_kinds a_t_hours a_t_lands a_t_owners a_t_treeWalls a_t_treePlaces t_families t_walls t_trees t_owners) H → va_D A (wX1_canHaveWall cI cC cB cS a_t a_t_kinds a_t_hours a_t_lands a_t_owners a_t_treeWalls a_t_treePlaces t_families t_walls t_trees t_owners) → va_S A H0 H locs → W p l e rmX1_canHaveWall s m args below meth c H locs 0 0 Q (F0 m pc ls [.int r])) {H : Heap} {locs : List Loc} {ls : Array Slot} (hP : va_P D vwCl (wX1_canHaveWall cI cC cB cS a_t a_t_kinds a_t_hours a_t_lands a_t_owners a_t_treeWalls a_t_treePlaces t_families t_walls t_trees t_owners) H) (hD : va_D A (wX1_canHaveWall cI cC cB cS a_t a_t_kinds a_t_hours a_t_lands a_t_owners a_t_treeWalls a_t_treePlaces t_families t_walls t_trees t_owners)) (hS : va_S A H0 H locs) (hl : lv_has ls 2 [(0, .ref a_t), (1, .int x1)]) : W p l e rmX1_canHaveWall s m args below meth c H locs 0 0 Q (F0 m 0 ls []) := by
  obtain ⟨⟨hx, hb, hml, hown, hts⟩, hA, hK, hN⟩ := id X
  unfold P_X1_canHaveWall at hp
  refine lv_iload_n hx hb dX1_canHaveWall_0 rfl (lv_at hl 1 rfl) ?_
  refine lv_iconst (v := 0) hx hb dX1_canHaveWall_1 (by decide) ?_
  refine lv_aload_n hx hb dX1_canHaveWall_2 rfl (lv_at hl 0 rfl) ?_
  refine va_get (D := D) (ci := 1) (v := .int t_families) (C := RX1) (T := TX1) (N := 9) hx hb hts in_X1_canHaveWall_X1 hown hK hP 0 rfl rfl 0 (by decide) (hts _ m_X1_canHaveWall_f30) (fun _ h9 => h9) rfl dX1_canHaveWall_3 ?_
  refine lv_iconst (v := 1) hx hb dX1_canHaveWall_6 (by decide) ?_
  refine lv_isub hx hb dX1_canHaveWall_7 ?_
  refine hcN_i (As := [.int x1, .int (0 : Int32), .int (t_families - (1 : Int32))]) (rest := []) (fun u => (wX1_canHaveWall cI cC cB cS a_t a_t_kinds a_t_hours a_t_lands a_t_owners a_t_treeWalls a_t_treePlaces t_families t_walls t_trees t_owners)) X hP hD hS hl.1 [] [0, 1] [0, 1] 3 (@c_X8_within l D cI cC cB cS x1 (0 : Int32) (t_families - (1 : Int32)) _ hp) ⟨rfl, rfl⟩ (fun _ => rfl) (by decide +kernel) ggX1_canHaveWall_X8_within rfl rfl rfl (by decide +kernel) m_X1_canHaveWall_i46 m_X1_canHaveWall_s46 hNm_X8_within ⟨Nat.le_of_ble_eq_true rfl, Nat.le_of_ble_eq_true rfl⟩ rfl rfl (Nat.le_of_ble_eq_true rfl) dX1_canHaveWall_8 ⟨Nat.le_of_ble_eq_true rfl, Nat.le_of_ble_eq_true rfl⟩ (fun r8 _ H locs hp hP hD hS => ?_)
  try dsimp only at hp
  have hP : va_P D vwCl (wX1_canHaveWall cI cC cB cS a_t a_t_kinds a_t_hours a_t_lands a_t_owners a_t_treeWalls a_t_treePlaces t_families t_walls t_trees t_owners) H := hP
  have hD : va_D A (wX1_canHaveWall cI cC cB cS a_t a_t_kinds a_t_hours a_t_lands a_t_owners a_t_treeWalls a_t_treePlaces t_families t_walls t_trees t_owners) := hD
  refine lv_if_eq (tgt := 27) hx hb dX1_canHaveWall_11 (by decide) (fun hc => ?_) (fun hc => ?_)
  · have hp := hp.1 hc
    refine lv_iconst (v := 0) hx hb dX1_canHaveWall_27 (by decide) ?_
    exact hret () dX1_canHaveWall_28 zb0 hp hP hD hS
  · have hp := hp.2 hc
    refine lv_aload_n hx hb dX1_canHaveWall_14 rfl (lv_at hl 0 rfl) ?_
    refine lv_iload_n hx hb dX1_canHaveWall_15 rfl (lv_at hl 1 rfl) ?_
    refine hcV_i (As := [.int x1]) (rest := []) (fun u => (wX1_canHaveWall cI cC cB cS a_t a_t_kinds a_t_hours a_t_lands a_t_owners a_t_treeWalls a_t_treePlaces t_families t_walls t_trees t_owners)) X hP hD hS hl.1 [0, 1] [] [0, 1] 1 0 (@c_X1_wallsOf l D cI cC cB cS a_t a_t_kinds a_t_hours a_t_lands a_t_owners a_t_treeWalls a_t_treePlaces t_families t_walls t_trees t_owners x1 _ hp) ⟨rfl, rfl⟩ (fun _ => rfl) (by decide +kernel) gX1_canHaveWall_X1_wallsOf rfl rfl rfl rfl hNm_X1_wallsOf ⟨Nat.le_of_ble_eq_true rfl, Nat.le_of_ble_eq_true rfl⟩ (ci := 1) rfl rfl rfl rfl (Nat.le_of_ble_eq_true rfl) dX1_canHaveWall_16 ⟨Nat.le_of_ble_eq_true rfl, Nat.le_of_ble_eq_true rfl⟩ (fun r16 _ H locs hp hP hD hS => ?_)
    try dsimp only at hp
    have hP : va_P D vwCl (wX1_canHaveWall cI cC cB cS a_t a_t_kinds a_t_hours a_t_lands a_t_owners a_t_treeWalls a_t_treePlaces t_families t_walls t_trees t_owners) H := hP
    have hD : va_D A (wX1_canHaveWall cI cC cB cS a_t a_t_kinds a_t_hours a_t_lands a_t_owners a_t_treeWalls a_t_treePlaces t_families t_walls t_trees t_owners) := hD
    refine lv_iconst (v := 4) hx hb dX1_canHaveWall_19 (by decide) ?_
    refine lv_icmp_ge (tgt := 27) hx hb dX1_canHaveWall_20 (by decide) (fun hc => ?_) (fun hc => ?_)
    · have hp := hp.1 hc
      refine lv_iconst (v := 0) hx hb dX1_canHaveWall_27 (by decide) ?_
      exact hret () dX1_canHaveWall_28 zb0 hp hP hD hS
    · have hp := hp.2 hc
      refine lv_iconst (v := 1) hx hb dX1_canHaveWall_23 (by decide) ?_
      refine lv_goto (tgt := 28) hx hb dX1_canHaveWall_24 (by decide) ?_
      exact hret () dX1_canHaveWall_28 zb1 hp hP hD hS
theorem c_X1_canHaveWall (l : Launch) (D : va_G) (cI cC cB cS : ClassId) (a_t a_t_kinds a_t_hours a_t_lands a_t_owners a_t_treeWalls a_t_treePlaces : Nat) (t_families : Int32) (t_walls : Int32) (t_trees : Int32) (t_owners : Nat → Int32) (x1 : Int32) {post : Int32 → Prop} (hp : P_X1_canHaveWall x1 t_families t_walls t_owners post) : CtrI l yX1_canHaveWall wsX1_canHaveWall rmX1_canHaveWall D (tyL cI cC cB cS) [.ref a_t, .int x1] (wX1_canHaveWall cI cC cB cS a_t a_t_kinds a_t_hours a_t_lands a_t_owners a_t_treeWalls a_t_treePlaces t_families t_walls t_trees t_owners) (fun r (u : Unit) => post r ) (fun u => (wX1_canHaveWall cI cC cB cS a_t a_t_kinds a_t_hours a_t_lands a_t_owners a_t_treeWalls a_t_treePlaces t_families t_walls t_trees t_owners)) 0 0 :=
  ctrZ_of (cc := cX1_canHaveWall) (maxL := 2) (by decide) rfl (Nat.le_of_ble_eq_true rfl) (fun X hret _ _ _ hP hD hS hl => k_X1_canHaveWall l D cI cC cB cS a_t a_t_kinds a_t_hours a_t_lands a_t_owners a_t_treeWalls a_t_treePlaces t_families t_walls t_trees t_owners x1 hp X hret hP hD hS hl)
-- putWall(II)V
abbrev rmX1_putWall : Room := { frames := 0, cells := 0, slots := 0, locals := 0 }
abbrev wX1_putWall (cI cC cB cS : ClassId) (a_t a_t_kinds a_t_hours a_t_lands a_t_owners a_t_treeWalls a_t_treePlaces : Nat) (t_families : Int32) (t_walls : Int32) (t_trees : Int32) (t_owners : Nat → Int32) : va_W := [(a_t, .inr (1, [.int t_families, .int t_walls, .int t_trees, .ref a_t_kinds, .ref a_t_hours, .ref a_t_lands, .ref a_t_owners, .ref a_t_treeWalls, .ref a_t_treePlaces])), (a_t_owners, .inl (cI, 18, .inl t_owners))]
theorem hNm_X1_putWall : hNm yX1_putWall 2 := by decide +kernel
theorem m_X1_putWall_f34 : Cond.fieldLink RX1 34 "LeaningWalls$County" "walls" "I" ∈ wsX1_putWall := by decide +kernel
theorem in_X1_putWall_X1 : ∀ w ∈ wsX10, w ∈ wsX1_putWall := by decide +kernel
theorem m_X1_putWall_f21 : Cond.fieldLink RX1 21 "LeaningWalls$County" "owners" "[I" ∈ wsX1_putWall := by decide +kernel
def P_X1_putWall (x1 : Int32) (x2 : Int32) (t_walls : Int32) (t_owners : Nat → Int32) (post : Int32 → (Nat → Int32) → Prop) : Prop := (t_walls ≤ (8 : Int32) → vp_in ((2 : Int32) * t_walls) 18 ∧ (vp_in (((2 : Int32) * t_walls) + (1 : Int32)) 18 ∧ (post (t_walls + (1 : Int32)) (upd (upd t_owners ((2 : Int32) * t_walls).toNatClampNeg x1) (((2 : Int32) * t_walls) + (1 : Int32)).toNatClampNeg x2)))) ∧ (¬ t_walls ≤ (8 : Int32) → post t_walls t_owners)
set_option maxHeartbeats 4000000 in
set_option maxRecDepth 100000 in
theorem k_X1_putWall (l : Launch) (D : va_G) (cI cC cB cS : ClassId) (a_t a_t_kinds a_t_hours a_t_lands a_t_owners a_t_treeWalls a_t_treePlaces : Nat) (t_families : Int32) (t_walls : Int32) (t_trees : Int32) (t_owners : Nat → Int32) (x1 : Int32) (x2 : Int32) {post : Int32 → (Nat → Int32) → Prop} (hp : P_X1_putWall x1 x2 t_walls t_owners post) {p : Program} {e : Env} {s : State} {m : MethodId} {args : Array Value} {below : List Frame} {meth : Method} {c : Code} {Q : State → Prop} {A : Nat → Prop} {H0 : Heap} (X : WCtx p s m args c cX1_putWall 3 wsX1_putWall RX1 H0 A D (tyL cI cC cB cS)) (hret : ∀ {pc : Nat} {ls : Array Slot} {H : Heap} {locs : List Loc} (u : Int32 × (Nat → Int32)), decode cX1_putWall pc = .ok (.return_, 1) → post u.1 u.2 → va_P D vwCl (wX1_putWall cI cC cB cS a_t a_t_kinds a_t_hours a_t_lands a_t_owners a_t_treeWalls a_t_treePlaces t_families u.1 t_trees u.2) H → va_D A (wX1_putWall cI cC cB cS a_t a_t_kinds a_t_hours a_t_lands a_t_owners a_t_treeWalls a_t_treePlaces t_families u.1 t_trees u.2) → va_S A H0 H locs → W p l e rmX1_putWall s m args below meth c H locs 0 0 Q (F0 m pc ls [])) {H : Heap} {locs : List Loc} {ls : Array Slot} (hP : va_P D vwCl (wX1_putWall cI cC cB cS a_t a_t_kinds a_t_hours a_t_lands a_t_owners a_t_treeWalls a_t_treePlaces t_families t_walls t_trees t_owners) H) (hD : va_D A (wX1_putWall cI cC cB cS a_t a_t_kinds a_t_hours a_t_lands a_t_owners a_t_treeWalls a_t_treePlaces t_families t_walls t_trees t_owners)) (hS : va_S A H0 H locs) (hl : lv_has ls 3 [(0, .ref a_t), (1, .int x1), (2, .int x2)]) : W p l e rmX1_putWall s m args below meth c H locs 0 0 Q (F0 m 0 ls []) := by
  obtain ⟨⟨hx, hb, hml, hown, hts⟩, hA, hK, hN⟩ := id X
  unfold P_X1_putWall at hp
  refine lv_aload_n hx hb dX1_putWall_0 rfl (lv_at hl 0 rfl) ?_
  refine va_get (D := D) (ci := 1) (v := .int t_walls) (C := RX1) (T := TX1) (N := 9) hx hb hts in_X1_putWall_X1 hown hK hP 0 rfl rfl 1 (by decide) (hts _ m_X1_putWall_f34) (fun _ h9 => h9) rfl dX1_putWall_1 ?_
  refine lv_bipush (v := 8) hx hb dX1_putWall_4 (by decide) ?_
  refine lv_icmp_le (tgt := 10) hx hb dX1_putWall_6 (by decide) (fun hc => ?_) (fun hc => ?_)
  · have hp := hp.1 hc
    refine lv_aload_n hx hb dX1_putWall_10 rfl (lv_at hl 0 rfl) ?_
    refine va_get (D := D) (ci := 1) (v := .ref a_t_owners) (C := RX1) (T := TX1) (N := 9) hx hb hts in_X1_putWall_X1 hown hK hP 0 rfl rfl 6 (by decide) (hts _ m_X1_putWall_f21) (fun _ h9 => h9) rfl dX1_putWall_11 ?_
    refine lv_iconst (v := 2) hx hb dX1_putWall_14 (by decide) ?_
    refine lv_aload_n hx hb dX1_putWall_15 rfl (lv_at hl 0 rfl) ?_
    refine va_get (D := D) (ci := 1) (v := .int t_walls) (C := RX1) (T := TX1) (N := 9) hx hb hts in_X1_putWall_X1 hown hK hP 0 rfl rfl 1 (by decide) (hts _ m_X1_putWall_f34) (fun _ h9 => h9) rfl dX1_putWall_16 ?_
    refine lv_imul hx hb dX1_putWall_19 ?_
    refine lv_iload_n hx hb dX1_putWall_20 rfl (lv_at hl 1 rfl) ?_
    obtain ⟨hi, hp⟩ := hp
    refine va_iast (D := D) hx hb hK hP hD hS 1 0 rfl rfl hi dX1_putWall_21 (fun H locs hP hD hS => ?_)
    have hP : va_P D vwCl (wX1_putWall cI cC cB cS a_t a_t_kinds a_t_hours a_t_lands a_t_owners a_t_treeWalls a_t_treePlaces t_families t_walls t_trees (upd t_owners ((2 : Int32) * t_walls).toNatClampNeg x1)) H := hP
    have hD : va_D A (wX1_putWall cI cC cB cS a_t a_t_kinds a_t_hours a_t_lands a_t_owners a_t_treeWalls a_t_treePlaces t_families t_walls t_trees (upd t_owners ((2 : Int32) * t_walls).toNatClampNeg x1)) := hD
    refine lv_aload_n hx hb dX1_putWall_22 rfl (lv_at hl 0 rfl) ?_
    refine va_get (D := D) (ci := 1) (v := .ref a_t_owners) (C := RX1) (T := TX1) (N := 9) hx hb hts in_X1_putWall_X1 hown hK hP 0 rfl rfl 6 (by decide) (hts _ m_X1_putWall_f21) (fun _ h9 => h9) rfl dX1_putWall_23 ?_
    refine lv_iconst (v := 2) hx hb dX1_putWall_26 (by decide) ?_
    refine lv_aload_n hx hb dX1_putWall_27 rfl (lv_at hl 0 rfl) ?_
    refine va_get (D := D) (ci := 1) (v := .int t_walls) (C := RX1) (T := TX1) (N := 9) hx hb hts in_X1_putWall_X1 hown hK hP 0 rfl rfl 1 (by decide) (hts _ m_X1_putWall_f34) (fun _ h9 => h9) rfl dX1_putWall_28 ?_
    refine lv_imul hx hb dX1_putWall_31 ?_
    refine lv_iconst (v := 1) hx hb dX1_putWall_32 (by decide) ?_
    refine lv_iadd hx hb dX1_putWall_33 ?_
    refine lv_iload_n hx hb dX1_putWall_34 rfl (lv_at hl 2 rfl) ?_
    obtain ⟨hi, hp⟩ := hp
    refine va_iast (D := D) hx hb hK hP hD hS 1 0 rfl rfl hi dX1_putWall_35 (fun H locs hP hD hS => ?_)
    have hP : va_P D vwCl (wX1_putWall cI cC cB cS a_t a_t_kinds a_t_hours a_t_lands a_t_owners a_t_treeWalls a_t_treePlaces t_families t_walls t_trees (upd (upd t_owners ((2 : Int32) * t_walls).toNatClampNeg x1) (((2 : Int32) * t_walls) + (1 : Int32)).toNatClampNeg x2)) H := hP
    have hD : va_D A (wX1_putWall cI cC cB cS a_t a_t_kinds a_t_hours a_t_lands a_t_owners a_t_treeWalls a_t_treePlaces t_families t_walls t_trees (upd (upd t_owners ((2 : Int32) * t_walls).toNatClampNeg x1) (((2 : Int32) * t_walls) + (1 : Int32)).toNatClampNeg x2)) := hD
    refine lv_aload_n hx hb dX1_putWall_36 rfl (lv_at hl 0 rfl) ?_
    refine lv_dup hx hb dX1_putWall_37 rfl ?_
    refine va_get (D := D) (ci := 1) (v := .int t_walls) (C := RX1) (T := TX1) (N := 9) hx hb hts in_X1_putWall_X1 hown hK hP 0 rfl rfl 1 (by decide) (hts _ m_X1_putWall_f34) (fun _ h9 => h9) rfl dX1_putWall_38 ?_
    refine lv_iconst (v := 1) hx hb dX1_putWall_41 (by decide) ?_
    refine lv_iadd hx hb dX1_putWall_42 ?_
    refine va_put (D := D) (ci := 1) (v := .int (t_walls + (1 : Int32))) (ty := .int) (C := RX1) (T := TX1) (N := 9) hx hb hts in_X1_putWall_X1 tyX1 tyX1_ok nmX1 hown hK hP hD hS 0 rfl rfl 1 (by decide) (hts _ m_X1_putWall_f34) (fun _ h9 => h9) rfl (by decide +kernel) rfl rfl (Nat.le_of_ble_eq_true rfl) dX1_putWall_43 (fun H locs hP hD hS => ?_)
    have hP : va_P D vwCl (wX1_putWall cI cC cB cS a_t a_t_kinds a_t_hours a_t_lands a_t_owners a_t_treeWalls a_t_treePlaces t_families (t_walls + (1 : Int32)) t_trees (upd (upd t_owners ((2 : Int32) * t_walls).toNatClampNeg x1) (((2 : Int32) * t_walls) + (1 : Int32)).toNatClampNeg x2)) H := hP
    have hD : va_D A (wX1_putWall cI cC cB cS a_t a_t_kinds a_t_hours a_t_lands a_t_owners a_t_treeWalls a_t_treePlaces t_families (t_walls + (1 : Int32)) t_trees (upd (upd t_owners ((2 : Int32) * t_walls).toNatClampNeg x1) (((2 : Int32) * t_walls) + (1 : Int32)).toNatClampNeg x2)) := hD
    exact hret ((t_walls + (1 : Int32)), (upd (upd t_owners ((2 : Int32) * t_walls).toNatClampNeg x1) (((2 : Int32) * t_walls) + (1 : Int32)).toNatClampNeg x2)) dX1_putWall_46 hp hP hD hS
  · have hp := hp.2 hc
    exact hret (t_walls, t_owners) dX1_putWall_9 hp hP hD hS
theorem c_X1_putWall (l : Launch) (D : va_G) (cI cC cB cS : ClassId) (a_t a_t_kinds a_t_hours a_t_lands a_t_owners a_t_treeWalls a_t_treePlaces : Nat) (t_families : Int32) (t_walls : Int32) (t_trees : Int32) (t_owners : Nat → Int32) (x1 : Int32) (x2 : Int32) {post : Int32 → (Nat → Int32) → Prop} (hp : P_X1_putWall x1 x2 t_walls t_owners post) : CtrV l yX1_putWall wsX1_putWall rmX1_putWall D (tyL cI cC cB cS) [.ref a_t, .int x1, .int x2] (wX1_putWall cI cC cB cS a_t a_t_kinds a_t_hours a_t_lands a_t_owners a_t_treeWalls a_t_treePlaces t_families t_walls t_trees t_owners) (fun (u : Int32 × (Nat → Int32)) => post u.1 u.2) (fun u => (wX1_putWall cI cC cB cS a_t a_t_kinds a_t_hours a_t_lands a_t_owners a_t_treeWalls a_t_treePlaces t_families u.1 t_trees u.2)) 0 0 :=
  ctrV_of (cc := cX1_putWall) (maxL := 3) (by decide) rfl (Nat.le_of_ble_eq_true rfl) (fun X hret _ _ _ hP hD hS hl => k_X1_putWall l D cI cC cB cS a_t a_t_kinds a_t_hours a_t_lands a_t_owners a_t_treeWalls a_t_treePlaces t_families t_walls t_trees t_owners x1 x2 hp X hret hP hD hS hl)
-- addWall(II)Z
abbrev rmX1_addWall : Room := { frames := 3, cells := 0, slots := 0, locals := 64 }
abbrev wX1_addWall (cI cC cB cS : ClassId) (a_t a_t_kinds a_t_hours a_t_lands a_t_owners a_t_treeWalls a_t_treePlaces : Nat) (t_families : Int32) (t_walls : Int32) (t_trees : Int32) (t_owners : Nat → Int32) : va_W := [(a_t, .inr (1, [.int t_families, .int t_walls, .int t_trees, .ref a_t_kinds, .ref a_t_hours, .ref a_t_lands, .ref a_t_owners, .ref a_t_treeWalls, .ref a_t_treePlaces])), (a_t_owners, .inl (cI, 18, .inl t_owners))]
theorem hNm_X1_addWall : hNm yX1_addWall 2 := by decide +kernel
theorem m_X1_addWall_f34 : Cond.fieldLink RX1 34 "LeaningWalls$County" "walls" "I" ∈ wsX1_addWall := by decide +kernel
theorem in_X1_addWall_X1 : ∀ w ∈ wsX10, w ∈ wsX1_addWall := by decide +kernel
def P_X1_addWall (x1 : Int32) (x2 : Int32) (t_families : Int32) (t_walls : Int32) (t_owners : Nat → Int32) (post : Int32 → Int32 → (Nat → Int32) → Prop) : Prop := ((8 : Int32) ≤ t_walls → post (0 : Int32) t_walls t_owners) ∧ (¬ (8 : Int32) ≤ t_walls → (x1 = x2 → post (0 : Int32) t_walls t_owners) ∧ (¬ x1 = x2 → P_X1_canHaveWall x1 t_families t_walls t_owners (fun r16 => (r16 = 0 → post (0 : Int32) t_walls t_owners) ∧ (¬ r16 = 0 → P_X1_canHaveWall x2 t_families t_walls t_owners (fun r24 => (¬ r24 = 0 → P_X1_putWall x1 x2 t_walls t_owners (fun t_walls_35 t_owners_35 => post (1 : Int32) t_walls_35 t_owners_35)) ∧ (r24 = 0 → post (0 : Int32) t_walls t_owners))))))
set_option maxHeartbeats 4000000 in
set_option maxRecDepth 100000 in
theorem k_X1_addWall (l : Launch) (D : va_G) (cI cC cB cS : ClassId) (a_t a_t_kinds a_t_hours a_t_lands a_t_owners a_t_treeWalls a_t_treePlaces : Nat) (t_families : Int32) (t_walls : Int32) (t_trees : Int32) (t_owners : Nat → Int32) (x1 : Int32) (x2 : Int32) {post : Int32 → Int32 → (Nat → Int32) → Prop} (hp : P_X1_addWall x1 x2 t_families t_walls t_owners post) {p : Program} {e : Env} {s : State} {m : MethodId} {args : Array Value} {below : List Frame} {meth : Method} {c : Code} {Q : State → Prop} {A : Nat → Prop} {H0 : Heap} (X : WCtx p s m args c cX1_addWall 3 wsX1_addWall RX1 H0 A D (tyL cI cC cB cS)) (hret : ∀ {pc : Nat} {ls : Array Slot} {H : Heap} {locs : List Loc} {r : Int32} (u : Int32 × (Nat → Int32)), decode cX1_addWall pc = .ok (.ireturn, 1) → zb r → post r u.1 u.2 → va_P D vwCl (wX1_addWall cI cC cB cS a_t a_t_kinds a_t_hours a_t_lands a_t_owners a_t_treeWalls a_t_treePlaces t_families u.1 t_trees u.2) H → va_D A (wX1_addWall cI cC cB cS a_t a_t_kinds a_t_hours a_t_lands a_t_owners a_t_treeWalls a_t_treePlaces t_families u.1 t_trees u.2) → va_S A H0 H locs → W p l e rmX1_addWall s m args below meth c H locs 0 0 Q (F0 m pc ls [.int r])) {H : Heap} {locs : List Loc} {ls : Array Slot} (hP : va_P D vwCl (wX1_addWall cI cC cB cS a_t a_t_kinds a_t_hours a_t_lands a_t_owners a_t_treeWalls a_t_treePlaces t_families t_walls t_trees t_owners) H) (hD : va_D A (wX1_addWall cI cC cB cS a_t a_t_kinds a_t_hours a_t_lands a_t_owners a_t_treeWalls a_t_treePlaces t_families t_walls t_trees t_owners)) (hS : va_S A H0 H locs) (hl : lv_has ls 3 [(0, .ref a_t), (1, .int x1), (2, .int x2)]) : W p l e rmX1_addWall s m args below meth c H locs 0 0 Q (F0 m 0 ls []) := by
  obtain ⟨⟨hx, hb, hml, hown, hts⟩, hA, hK, hN⟩ := id X
  unfold P_X1_addWall at hp
  refine lv_aload_n hx hb dX1_addWall_0 rfl (lv_at hl 0 rfl) ?_
  refine va_get (D := D) (ci := 1) (v := .int t_walls) (C := RX1) (T := TX1) (N := 9) hx hb hts in_X1_addWall_X1 hown hK hP 0 rfl rfl 1 (by decide) (hts _ m_X1_addWall_f34) (fun _ h9 => h9) rfl dX1_addWall_1 ?_
  refine lv_bipush (v := 8) hx hb dX1_addWall_4 (by decide) ?_
  refine lv_icmp_ge (tgt := 30) hx hb dX1_addWall_6 (by decide) (fun hc => ?_) (fun hc => ?_)
  · have hp := hp.1 hc
    refine lv_iconst (v := 0) hx hb dX1_addWall_30 (by decide) ?_
    exact hret (t_walls, t_owners) dX1_addWall_31 zb0 hp hP hD hS
  · have hp := hp.2 hc
    refine lv_iload_n hx hb dX1_addWall_9 rfl (lv_at hl 1 rfl) ?_
    refine lv_iload_n hx hb dX1_addWall_10 rfl (lv_at hl 2 rfl) ?_
    refine lv_icmp_eq (tgt := 30) hx hb dX1_addWall_11 (by decide) (fun hc => ?_) (fun hc => ?_)
    · have hp := hp.1 hc
      refine lv_iconst (v := 0) hx hb dX1_addWall_30 (by decide) ?_
      exact hret (t_walls, t_owners) dX1_addWall_31 zb0 hp hP hD hS
    · have hp := hp.2 hc
      refine lv_aload_n hx hb dX1_addWall_14 rfl (lv_at hl 0 rfl) ?_
      refine lv_iload_n hx hb dX1_addWall_15 rfl (lv_at hl 1 rfl) ?_
      refine hcV_i (As := [.int x1]) (rest := []) (fun u => (wX1_addWall cI cC cB cS a_t a_t_kinds a_t_hours a_t_lands a_t_owners a_t_treeWalls a_t_treePlaces t_families t_walls t_trees t_owners)) X hP hD hS hl.1 [0, 1] [] [0, 1] 1 0 (@c_X1_canHaveWall l D cI cC cB cS a_t a_t_kinds a_t_hours a_t_lands a_t_owners a_t_treeWalls a_t_treePlaces t_families t_walls t_trees t_owners x1 _ hp) ⟨rfl, rfl⟩ (fun _ => rfl) (by decide +kernel) gX1_addWall_X1_canHaveWall rfl rfl rfl rfl hNm_X1_canHaveWall ⟨Nat.le_of_ble_eq_true rfl, Nat.le_of_ble_eq_true rfl⟩ (ci := 1) rfl rfl rfl rfl (Nat.le_of_ble_eq_true rfl) dX1_addWall_16 ⟨Nat.le_of_ble_eq_true rfl, Nat.le_of_ble_eq_true rfl⟩ (fun r16 _ H locs hp hP hD hS => ?_)
      try dsimp only at hp
      have hP : va_P D vwCl (wX1_addWall cI cC cB cS a_t a_t_kinds a_t_hours a_t_lands a_t_owners a_t_treeWalls a_t_treePlaces t_families t_walls t_trees t_owners) H := hP
      have hD : va_D A (wX1_addWall cI cC cB cS a_t a_t_kinds a_t_hours a_t_lands a_t_owners a_t_treeWalls a_t_treePlaces t_families t_walls t_trees t_owners) := hD
      refine lv_if_eq (tgt := 30) hx hb dX1_addWall_19 (by decide) (fun hc => ?_) (fun hc => ?_)
      · have hp := hp.1 hc
        refine lv_iconst (v := 0) hx hb dX1_addWall_30 (by decide) ?_
        exact hret (t_walls, t_owners) dX1_addWall_31 zb0 hp hP hD hS
      · have hp := hp.2 hc
        refine lv_aload_n hx hb dX1_addWall_22 rfl (lv_at hl 0 rfl) ?_
        refine lv_iload_n hx hb dX1_addWall_23 rfl (lv_at hl 2 rfl) ?_
        refine hcV_i (As := [.int x2]) (rest := []) (fun u => (wX1_addWall cI cC cB cS a_t a_t_kinds a_t_hours a_t_lands a_t_owners a_t_treeWalls a_t_treePlaces t_families t_walls t_trees t_owners)) X hP hD hS hl.1 [0, 1] [] [0, 1] 1 0 (@c_X1_canHaveWall l D cI cC cB cS a_t a_t_kinds a_t_hours a_t_lands a_t_owners a_t_treeWalls a_t_treePlaces t_families t_walls t_trees t_owners x2 _ hp) ⟨rfl, rfl⟩ (fun _ => rfl) (by decide +kernel) gX1_addWall_X1_canHaveWall rfl rfl rfl rfl hNm_X1_canHaveWall ⟨Nat.le_of_ble_eq_true rfl, Nat.le_of_ble_eq_true rfl⟩ (ci := 1) rfl rfl rfl rfl (Nat.le_of_ble_eq_true rfl) dX1_addWall_24 ⟨Nat.le_of_ble_eq_true rfl, Nat.le_of_ble_eq_true rfl⟩ (fun r24 _ H locs hp hP hD hS => ?_)
        try dsimp only at hp
        have hP : va_P D vwCl (wX1_addWall cI cC cB cS a_t a_t_kinds a_t_hours a_t_lands a_t_owners a_t_treeWalls a_t_treePlaces t_families t_walls t_trees t_owners) H := hP
        have hD : va_D A (wX1_addWall cI cC cB cS a_t a_t_kinds a_t_hours a_t_lands a_t_owners a_t_treeWalls a_t_treePlaces t_families t_walls t_trees t_owners) := hD
        refine lv_if_ne (tgt := 32) hx hb dX1_addWall_27 (by decide) (fun hc => ?_) (fun hc => ?_)
        · have hp := hp.1 hc
          refine lv_aload_n hx hb dX1_addWall_32 rfl (lv_at hl 0 rfl) ?_
          refine lv_iload_n hx hb dX1_addWall_33 rfl (lv_at hl 1 rfl) ?_
          refine lv_iload_n hx hb dX1_addWall_34 rfl (lv_at hl 2 rfl) ?_
          refine hcV_v (As := [.int x1, .int x2]) (rest := []) (fun u => (wX1_addWall cI cC cB cS a_t a_t_kinds a_t_hours a_t_lands a_t_owners a_t_treeWalls a_t_treePlaces t_families u.1 t_trees u.2)) X hP hD hS hl.1 [0, 1] [] [0, 1] 2 0 (@c_X1_putWall l D cI cC cB cS a_t a_t_kinds a_t_hours a_t_lands a_t_owners a_t_treeWalls a_t_treePlaces t_families t_walls t_trees t_owners x1 x2 _ hp) ⟨rfl, rfl⟩ (fun _ => rfl) (by decide +kernel) gX1_addWall_X1_putWall rfl rfl rfl rfl hNm_X1_putWall ⟨Nat.le_of_ble_eq_true rfl, Nat.le_of_ble_eq_true rfl⟩ (ci := 1) rfl rfl rfl rfl (Nat.le_of_ble_eq_true rfl) dX1_addWall_35 ⟨Nat.le_of_ble_eq_true rfl, Nat.le_of_ble_eq_true rfl⟩ (fun u H locs hp hP hD hS => ?_)
          obtain ⟨t_walls_35, t_owners_35⟩ := u
          try dsimp only at hp
          have hP : va_P D vwCl (wX1_addWall cI cC cB cS a_t a_t_kinds a_t_hours a_t_lands a_t_owners a_t_treeWalls a_t_treePlaces t_families t_walls_35 t_trees t_owners_35) H := hP
          have hD : va_D A (wX1_addWall cI cC cB cS a_t a_t_kinds a_t_hours a_t_lands a_t_owners a_t_treeWalls a_t_treePlaces t_families t_walls_35 t_trees t_owners_35) := hD
          refine lv_iconst (v := 1) hx hb dX1_addWall_38 (by decide) ?_
          exact hret (t_walls_35, t_owners_35) dX1_addWall_39 zb1 hp hP hD hS
        · have hp := hp.2 hc
          refine lv_iconst (v := 0) hx hb dX1_addWall_30 (by decide) ?_
          exact hret (t_walls, t_owners) dX1_addWall_31 zb0 hp hP hD hS
theorem c_X1_addWall (l : Launch) (D : va_G) (cI cC cB cS : ClassId) (a_t a_t_kinds a_t_hours a_t_lands a_t_owners a_t_treeWalls a_t_treePlaces : Nat) (t_families : Int32) (t_walls : Int32) (t_trees : Int32) (t_owners : Nat → Int32) (x1 : Int32) (x2 : Int32) {post : Int32 → Int32 → (Nat → Int32) → Prop} (hp : P_X1_addWall x1 x2 t_families t_walls t_owners post) : CtrI l yX1_addWall wsX1_addWall rmX1_addWall D (tyL cI cC cB cS) [.ref a_t, .int x1, .int x2] (wX1_addWall cI cC cB cS a_t a_t_kinds a_t_hours a_t_lands a_t_owners a_t_treeWalls a_t_treePlaces t_families t_walls t_trees t_owners) (fun r (u : Int32 × (Nat → Int32)) => post r u.1 u.2) (fun u => (wX1_addWall cI cC cB cS a_t a_t_kinds a_t_hours a_t_lands a_t_owners a_t_treeWalls a_t_treePlaces t_families u.1 t_trees u.2)) 0 0 :=
  ctrZ_of (cc := cX1_addWall) (maxL := 3) (by decide) rfl (Nat.le_of_ble_eq_true rfl) (fun X hret _ _ _ hP hD hS hl => k_X1_addWall l D cI cC cB cS a_t a_t_kinds a_t_hours a_t_lands a_t_owners a_t_treeWalls a_t_treePlaces t_families t_walls t_trees t_owners x1 x2 hp X hret hP hD hS hl)
-- addTree(II)Z
abbrev rmX1_addTree : Room := { frames := 1, cells := 0, slots := 0, locals := 22 }
abbrev wX1_addTree (cI cC cB cS : ClassId) (a_t a_t_kinds a_t_hours a_t_lands a_t_owners a_t_treeWalls a_t_treePlaces : Nat) (t_families : Int32) (t_walls : Int32) (t_trees : Int32) (t_treeWalls : Nat → Int32) (t_treePlaces : Nat → Int32) : va_W := [(a_t, .inr (1, [.int t_families, .int t_walls, .int t_trees, .ref a_t_kinds, .ref a_t_hours, .ref a_t_lands, .ref a_t_owners, .ref a_t_treeWalls, .ref a_t_treePlaces])), (a_t_treeWalls, .inl (cI, 6, .inl t_treeWalls)), (a_t_treePlaces, .inl (cI, 6, .inl t_treePlaces))]
theorem hNm_X1_addTree : hNm yX1_addTree 2 := by decide +kernel
theorem m_X1_addTree_f37 : Cond.fieldLink RX1 37 "LeaningWalls$County" "trees" "I" ∈ wsX1_addTree := by decide +kernel
theorem in_X1_addTree_X1 : ∀ w ∈ wsX10, w ∈ wsX1_addTree := by decide +kernel
theorem m_X1_addTree_f34 : Cond.fieldLink RX1 34 "LeaningWalls$County" "walls" "I" ∈ wsX1_addTree := by decide +kernel
theorem m_X1_addTree_i46 : Cond.initialized (yX8_within).cls ∈ wsX1_addTree := by decide +kernel
theorem m_X1_addTree_s46 : Cond.static yX8_within ∈ wsX1_addTree := by decide +kernel
theorem m_X1_addTree_f24 : Cond.fieldLink RX1 24 "LeaningWalls$County" "treeWalls" "[I" ∈ wsX1_addTree := by decide +kernel
theorem m_X1_addTree_f27 : Cond.fieldLink RX1 27 "LeaningWalls$County" "treePlaces" "[I" ∈ wsX1_addTree := by decide +kernel
def P_X1_addTree (x1 : Int32) (x2 : Int32) (t_walls : Int32) (t_trees : Int32) (t_treeWalls : Nat → Int32) (t_treePlaces : Nat → Int32) (post : Int32 → Int32 → (Nat → Int32) → (Nat → Int32) → Prop) : Prop := ((6 : Int32) ≤ t_trees → post (0 : Int32) t_trees t_treeWalls t_treePlaces) ∧ (¬ (6 : Int32) ≤ t_trees → P_X8_within x1 (0 : Int32) (t_walls - (1 : Int32)) (fun r17 => (r17 = 0 → post (0 : Int32) t_trees t_treeWalls t_treePlaces) ∧ (¬ r17 = 0 → P_X8_within x2 (0 : Int32) (40 : Int32) (fun r27 => (¬ r27 = 0 → vp_in t_trees 6 ∧ (vp_in t_trees 6 ∧ (post (1 : Int32) (t_trees + (1 : Int32)) (upd t_treeWalls t_trees.toNatClampNeg x1) (upd t_treePlaces t_trees.toNatClampNeg (x2 - (20 : Int32)))))) ∧ (r27 = 0 → post (0 : Int32) t_trees t_treeWalls t_treePlaces)))))
set_option maxHeartbeats 4000000 in
set_option maxRecDepth 100000 in
theorem k_X1_addTree (l : Launch) (D : va_G) (cI cC cB cS : ClassId) (a_t a_t_kinds a_t_hours a_t_lands a_t_owners a_t_treeWalls a_t_treePlaces : Nat) (t_families : Int32) (t_walls : Int32) (t_trees : Int32) (t_treeWalls : Nat → Int32) (t_treePlaces : Nat → Int32) (x1 : Int32) (x2 : Int32) {post : Int32 → Int32 → (Nat → Int32) → (Nat → Int32) → Prop} (hp : P_X1_addTree x1 x2 t_walls t_trees t_treeWalls t_treePlaces post) {p : Program} {e : Env} {s : State} {m : MethodId} {args : Array Value} {below : List Frame} {meth : Method} {c : Code} {Q : State → Prop} {A : Nat → Prop} {H0 : Heap} (X : WCtx p s m args c cX1_addTree 3 wsX1_addTree RX1 H0 A D (tyL cI cC cB cS)) (hret : ∀ {pc : Nat} {ls : Array Slot} {H : Heap} {locs : List Loc} {r : Int32} (u : Int32 × (Nat → Int32) × (Nat → Int32)), decode cX1_addTree pc = .ok (.ireturn, 1) → zb r → post r u.1 u.2.1 u.2.2 → va_P D vwCl (wX1_addTree cI cC cB cS a_t a_t_kinds a_t_hours a_t_lands a_t_owners a_t_treeWalls a_t_treePlaces t_families t_walls u.1 u.2.1 u.2.2) H → va_D A (wX1_addTree cI cC cB cS a_t a_t_kinds a_t_hours a_t_lands a_t_owners a_t_treeWalls a_t_treePlaces t_families t_walls u.1 u.2.1 u.2.2) → va_S A H0 H locs → W p l e rmX1_addTree s m args below meth c H locs 0 0 Q (F0 m pc ls [.int r])) {H : Heap} {locs : List Loc} {ls : Array Slot} (hP : va_P D vwCl (wX1_addTree cI cC cB cS a_t a_t_kinds a_t_hours a_t_lands a_t_owners a_t_treeWalls a_t_treePlaces t_families t_walls t_trees t_treeWalls t_treePlaces) H) (hD : va_D A (wX1_addTree cI cC cB cS a_t a_t_kinds a_t_hours a_t_lands a_t_owners a_t_treeWalls a_t_treePlaces t_families t_walls t_trees t_treeWalls t_treePlaces)) (hS : va_S A H0 H locs) (hl : lv_has ls 3 [(0, .ref a_t), (1, .int x1), (2, .int x2)]) : W p l e rmX1_addTree s m args below meth c H locs 0 0 Q (F0 m 0 ls []) := by
  obtain ⟨⟨hx, hb, hml, hown, hts⟩, hA, hK, hN⟩ := id X
  unfold P_X1_addTree at hp
  refine lv_aload_n hx hb dX1_addTree_0 rfl (lv_at hl 0 rfl) ?_
  refine va_get (D := D) (ci := 1) (v := .int t_trees) (C := RX1) (T := TX1) (N := 9) hx hb hts in_X1_addTree_X1 hown hK hP 0 rfl rfl 2 (by decide) (hts _ m_X1_addTree_f37) (fun _ h9 => h9) rfl dX1_addTree_1 ?_
  refine lv_bipush (v := 6) hx hb dX1_addTree_4 (by decide) ?_
  refine lv_icmp_ge (tgt := 33) hx hb dX1_addTree_6 (by decide) (fun hc => ?_) (fun hc => ?_)
  · have hp := hp.1 hc
    refine lv_iconst (v := 0) hx hb dX1_addTree_33 (by decide) ?_
    exact hret (t_trees, t_treeWalls, t_treePlaces) dX1_addTree_34 zb0 hp hP hD hS
  · have hp := hp.2 hc
    refine lv_iload_n hx hb dX1_addTree_9 rfl (lv_at hl 1 rfl) ?_
    refine lv_iconst (v := 0) hx hb dX1_addTree_10 (by decide) ?_
    refine lv_aload_n hx hb dX1_addTree_11 rfl (lv_at hl 0 rfl) ?_
    refine va_get (D := D) (ci := 1) (v := .int t_walls) (C := RX1) (T := TX1) (N := 9) hx hb hts in_X1_addTree_X1 hown hK hP 0 rfl rfl 1 (by decide) (hts _ m_X1_addTree_f34) (fun _ h9 => h9) rfl dX1_addTree_12 ?_
    refine lv_iconst (v := 1) hx hb dX1_addTree_15 (by decide) ?_
    refine lv_isub hx hb dX1_addTree_16 ?_
    refine hcN_i (As := [.int x1, .int (0 : Int32), .int (t_walls - (1 : Int32))]) (rest := []) (fun u => (wX1_addTree cI cC cB cS a_t a_t_kinds a_t_hours a_t_lands a_t_owners a_t_treeWalls a_t_treePlaces t_families t_walls t_trees t_treeWalls t_treePlaces)) X hP hD hS hl.1 [] [0, 1, 2] [0, 1, 2] 3 (@c_X8_within l D cI cC cB cS x1 (0 : Int32) (t_walls - (1 : Int32)) _ hp) ⟨rfl, rfl⟩ (fun _ => rfl) (by decide +kernel) ggX1_addTree_X8_within rfl rfl rfl (by decide +kernel) m_X1_addTree_i46 m_X1_addTree_s46 hNm_X8_within ⟨Nat.le_of_ble_eq_true rfl, Nat.le_of_ble_eq_true rfl⟩ rfl rfl (Nat.le_of_ble_eq_true rfl) dX1_addTree_17 ⟨Nat.le_of_ble_eq_true rfl, Nat.le_of_ble_eq_true rfl⟩ (fun r17 _ H locs hp hP hD hS => ?_)
    try dsimp only at hp
    have hP : va_P D vwCl (wX1_addTree cI cC cB cS a_t a_t_kinds a_t_hours a_t_lands a_t_owners a_t_treeWalls a_t_treePlaces t_families t_walls t_trees t_treeWalls t_treePlaces) H := hP
    have hD : va_D A (wX1_addTree cI cC cB cS a_t a_t_kinds a_t_hours a_t_lands a_t_owners a_t_treeWalls a_t_treePlaces t_families t_walls t_trees t_treeWalls t_treePlaces) := hD
    refine lv_if_eq (tgt := 33) hx hb dX1_addTree_20 (by decide) (fun hc => ?_) (fun hc => ?_)
    · have hp := hp.1 hc
      refine lv_iconst (v := 0) hx hb dX1_addTree_33 (by decide) ?_
      exact hret (t_trees, t_treeWalls, t_treePlaces) dX1_addTree_34 zb0 hp hP hD hS
    · have hp := hp.2 hc
      refine lv_iload_n hx hb dX1_addTree_23 rfl (lv_at hl 2 rfl) ?_
      refine lv_iconst (v := 0) hx hb dX1_addTree_24 (by decide) ?_
      refine lv_bipush (v := 40) hx hb dX1_addTree_25 (by decide) ?_
      refine hcN_i (As := [.int x2, .int (0 : Int32), .int (40 : Int32)]) (rest := []) (fun u => (wX1_addTree cI cC cB cS a_t a_t_kinds a_t_hours a_t_lands a_t_owners a_t_treeWalls a_t_treePlaces t_families t_walls t_trees t_treeWalls t_treePlaces)) X hP hD hS hl.1 [] [0, 1, 2] [0, 1, 2] 3 (@c_X8_within l D cI cC cB cS x2 (0 : Int32) (40 : Int32) _ hp) ⟨rfl, rfl⟩ (fun _ => rfl) (by decide +kernel) ggX1_addTree_X8_within rfl rfl rfl (by decide +kernel) m_X1_addTree_i46 m_X1_addTree_s46 hNm_X8_within ⟨Nat.le_of_ble_eq_true rfl, Nat.le_of_ble_eq_true rfl⟩ rfl rfl (Nat.le_of_ble_eq_true rfl) dX1_addTree_27 ⟨Nat.le_of_ble_eq_true rfl, Nat.le_of_ble_eq_true rfl⟩ (fun r27 _ H locs hp hP hD hS => ?_)
      try dsimp only at hp
      have hP : va_P D vwCl (wX1_addTree cI cC cB cS a_t a_t_kinds a_t_hours a_t_lands a_t_owners a_t_treeWalls a_t_treePlaces t_families t_walls t_trees t_treeWalls t_treePlaces) H := hP
      have hD : va_D A (wX1_addTree cI cC cB cS a_t a_t_kinds a_t_hours a_t_lands a_t_owners a_t_treeWalls a_t_treePlaces t_families t_walls t_trees t_treeWalls t_treePlaces) := hD
      refine lv_if_ne (tgt := 35) hx hb dX1_addTree_30 (by decide) (fun hc => ?_) (fun hc => ?_)
      · have hp := hp.1 hc
        refine lv_aload_n hx hb dX1_addTree_35 rfl (lv_at hl 0 rfl) ?_
        refine va_get (D := D) (ci := 1) (v := .ref a_t_treeWalls) (C := RX1) (T := TX1) (N := 9) hx hb hts in_X1_addTree_X1 hown hK hP 0 rfl rfl 7 (by decide) (hts _ m_X1_addTree_f24) (fun _ h9 => h9) rfl dX1_addTree_36 ?_
        refine lv_aload_n hx hb dX1_addTree_39 rfl (lv_at hl 0 rfl) ?_
        refine va_get (D := D) (ci := 1) (v := .int t_trees) (C := RX1) (T := TX1) (N := 9) hx hb hts in_X1_addTree_X1 hown hK hP 0 rfl rfl 2 (by decide) (hts _ m_X1_addTree_f37) (fun _ h9 => h9) rfl dX1_addTree_40 ?_
        refine lv_iload_n hx hb dX1_addTree_43 rfl (lv_at hl 1 rfl) ?_
        obtain ⟨hi, hp⟩ := hp
        refine va_iast (D := D) hx hb hK hP hD hS 1 0 rfl rfl hi dX1_addTree_44 (fun H locs hP hD hS => ?_)
        have hP : va_P D vwCl (wX1_addTree cI cC cB cS a_t a_t_kinds a_t_hours a_t_lands a_t_owners a_t_treeWalls a_t_treePlaces t_families t_walls t_trees (upd t_treeWalls t_trees.toNatClampNeg x1) t_treePlaces) H := hP
        have hD : va_D A (wX1_addTree cI cC cB cS a_t a_t_kinds a_t_hours a_t_lands a_t_owners a_t_treeWalls a_t_treePlaces t_families t_walls t_trees (upd t_treeWalls t_trees.toNatClampNeg x1) t_treePlaces) := hD
        refine lv_aload_n hx hb dX1_addTree_45 rfl (lv_at hl 0 rfl) ?_
        refine va_get (D := D) (ci := 1) (v := .ref a_t_treePlaces) (C := RX1) (T := TX1) (N := 9) hx hb hts in_X1_addTree_X1 hown hK hP 0 rfl rfl 8 (by decide) (hts _ m_X1_addTree_f27) (fun _ h9 => h9) rfl dX1_addTree_46 ?_
        refine lv_aload_n hx hb dX1_addTree_49 rfl (lv_at hl 0 rfl) ?_
        refine va_get (D := D) (ci := 1) (v := .int t_trees) (C := RX1) (T := TX1) (N := 9) hx hb hts in_X1_addTree_X1 hown hK hP 0 rfl rfl 2 (by decide) (hts _ m_X1_addTree_f37) (fun _ h9 => h9) rfl dX1_addTree_50 ?_
        refine lv_iload_n hx hb dX1_addTree_53 rfl (lv_at hl 2 rfl) ?_
        refine lv_bipush (v := 20) hx hb dX1_addTree_54 (by decide) ?_
        refine lv_isub hx hb dX1_addTree_56 ?_
        obtain ⟨hi, hp⟩ := hp
        refine va_iast (D := D) hx hb hK hP hD hS 2 0 rfl rfl hi dX1_addTree_57 (fun H locs hP hD hS => ?_)
        have hP : va_P D vwCl (wX1_addTree cI cC cB cS a_t a_t_kinds a_t_hours a_t_lands a_t_owners a_t_treeWalls a_t_treePlaces t_families t_walls t_trees (upd t_treeWalls t_trees.toNatClampNeg x1) (upd t_treePlaces t_trees.toNatClampNeg (x2 - (20 : Int32)))) H := hP
        have hD : va_D A (wX1_addTree cI cC cB cS a_t a_t_kinds a_t_hours a_t_lands a_t_owners a_t_treeWalls a_t_treePlaces t_families t_walls t_trees (upd t_treeWalls t_trees.toNatClampNeg x1) (upd t_treePlaces t_trees.toNatClampNeg (x2 - (20 : Int32)))) := hD
        refine lv_aload_n hx hb dX1_addTree_58 rfl (lv_at hl 0 rfl) ?_
        refine lv_dup hx hb dX1_addTree_59 rfl ?_
        refine va_get (D := D) (ci := 1) (v := .int t_trees) (C := RX1) (T := TX1) (N := 9) hx hb hts in_X1_addTree_X1 hown hK hP 0 rfl rfl 2 (by decide) (hts _ m_X1_addTree_f37) (fun _ h9 => h9) rfl dX1_addTree_60 ?_
        refine lv_iconst (v := 1) hx hb dX1_addTree_63 (by decide) ?_
        refine lv_iadd hx hb dX1_addTree_64 ?_
        refine va_put (D := D) (ci := 1) (v := .int (t_trees + (1 : Int32))) (ty := .int) (C := RX1) (T := TX1) (N := 9) hx hb hts in_X1_addTree_X1 tyX1 tyX1_ok nmX1 hown hK hP hD hS 0 rfl rfl 2 (by decide) (hts _ m_X1_addTree_f37) (fun _ h9 => h9) rfl (by decide +kernel) rfl rfl (Nat.le_of_ble_eq_true rfl) dX1_addTree_65 (fun H locs hP hD hS => ?_)
        have hP : va_P D vwCl (wX1_addTree cI cC cB cS a_t a_t_kinds a_t_hours a_t_lands a_t_owners a_t_treeWalls a_t_treePlaces t_families t_walls (t_trees + (1 : Int32)) (upd t_treeWalls t_trees.toNatClampNeg x1) (upd t_treePlaces t_trees.toNatClampNeg (x2 - (20 : Int32)))) H := hP
        have hD : va_D A (wX1_addTree cI cC cB cS a_t a_t_kinds a_t_hours a_t_lands a_t_owners a_t_treeWalls a_t_treePlaces t_families t_walls (t_trees + (1 : Int32)) (upd t_treeWalls t_trees.toNatClampNeg x1) (upd t_treePlaces t_trees.toNatClampNeg (x2 - (20 : Int32)))) := hD
        refine lv_iconst (v := 1) hx hb dX1_addTree_68 (by decide) ?_
        exact hret ((t_trees + (1 : Int32)), (upd t_treeWalls t_trees.toNatClampNeg x1), (upd t_treePlaces t_trees.toNatClampNeg (x2 - (20 : Int32)))) dX1_addTree_69 zb1 hp hP hD hS
      · have hp := hp.2 hc
        refine lv_iconst (v := 0) hx hb dX1_addTree_33 (by decide) ?_
        exact hret (t_trees, t_treeWalls, t_treePlaces) dX1_addTree_34 zb0 hp hP hD hS
theorem c_X1_addTree (l : Launch) (D : va_G) (cI cC cB cS : ClassId) (a_t a_t_kinds a_t_hours a_t_lands a_t_owners a_t_treeWalls a_t_treePlaces : Nat) (t_families : Int32) (t_walls : Int32) (t_trees : Int32) (t_treeWalls : Nat → Int32) (t_treePlaces : Nat → Int32) (x1 : Int32) (x2 : Int32) {post : Int32 → Int32 → (Nat → Int32) → (Nat → Int32) → Prop} (hp : P_X1_addTree x1 x2 t_walls t_trees t_treeWalls t_treePlaces post) : CtrI l yX1_addTree wsX1_addTree rmX1_addTree D (tyL cI cC cB cS) [.ref a_t, .int x1, .int x2] (wX1_addTree cI cC cB cS a_t a_t_kinds a_t_hours a_t_lands a_t_owners a_t_treeWalls a_t_treePlaces t_families t_walls t_trees t_treeWalls t_treePlaces) (fun r (u : Int32 × (Nat → Int32) × (Nat → Int32)) => post r u.1 u.2.1 u.2.2) (fun u => (wX1_addTree cI cC cB cS a_t a_t_kinds a_t_hours a_t_lands a_t_owners a_t_treeWalls a_t_treePlaces t_families t_walls u.1 u.2.1 u.2.2)) 0 0 :=
  ctrZ_of (cc := cX1_addTree) (maxL := 3) (by decide) rfl (Nat.le_of_ble_eq_true rfl) (fun X hret _ _ _ hP hD hS hl => k_X1_addTree l D cI cC cB cS a_t a_t_kinds a_t_hours a_t_lands a_t_owners a_t_treeWalls a_t_treePlaces t_families t_walls t_trees t_treeWalls t_treePlaces x1 x2 hp X hret hP hD hS hl)
-- sideAt(II)I
abbrev rmX1_sideAt : Room := { frames := 0, cells := 0, slots := 0, locals := 0 }
abbrev wX1_sideAt (cI cC cB cS : ClassId) (a_t a_t_kinds a_t_hours a_t_lands a_t_owners a_t_treeWalls a_t_treePlaces : Nat) (t_families : Int32) (t_walls : Int32) (t_trees : Int32) (t_owners : Nat → Int32) : va_W := [(a_t, .inr (1, [.int t_families, .int t_walls, .int t_trees, .ref a_t_kinds, .ref a_t_hours, .ref a_t_lands, .ref a_t_owners, .ref a_t_treeWalls, .ref a_t_treePlaces])), (a_t_owners, .inl (cI, 18, .inl t_owners))]
theorem hNm_X1_sideAt : hNm yX1_sideAt 2 := by decide +kernel
theorem m_X1_sideAt_f21 : Cond.fieldLink RX1 21 "LeaningWalls$County" "owners" "[I" ∈ wsX1_sideAt := by decide +kernel
theorem in_X1_sideAt_X1 : ∀ w ∈ wsX10, w ∈ wsX1_sideAt := by decide +kernel
def P_X1_sideAt (x1 : Int32) (x2 : Int32) (t_owners : Nat → Int32) (post : Int32 → Prop) : Prop := vp_in ((2 : Int32) * x2) 18 ∧ ((¬ (t_owners ((2 : Int32) * x2).toNatClampNeg) = x1 → vp_in (((2 : Int32) * x2) + (1 : Int32)) 18 ∧ ((¬ (t_owners (((2 : Int32) * x2) + (1 : Int32)).toNatClampNeg) = x1 → post (-4 : Int32)) ∧ ((t_owners (((2 : Int32) * x2) + (1 : Int32)).toNatClampNeg) = x1 → post (((2 : Int32) * x2) + (1 : Int32))))) ∧ ((t_owners ((2 : Int32) * x2).toNatClampNeg) = x1 → post ((2 : Int32) * x2)))
set_option maxHeartbeats 4000000 in
set_option maxRecDepth 100000 in
theorem k_X1_sideAt (l : Launch) (D : va_G) (cI cC cB cS : ClassId) (a_t a_t_kinds a_t_hours a_t_lands a_t_owners a_t_treeWalls a_t_treePlaces : Nat) (t_families : Int32) (t_walls : Int32) (t_trees : Int32) (t_owners : Nat → Int32) (x1 : Int32) (x2 : Int32) {post : Int32 → Prop} (hp : P_X1_sideAt x1 x2 t_owners post) {p : Program} {e : Env} {s : State} {m : MethodId} {args : Array Value} {below : List Frame} {meth : Method} {c : Code} {Q : State → Prop} {A : Nat → Prop} {H0 : Heap} (X : WCtx p s m args c cX1_sideAt 3 wsX1_sideAt RX1 H0 A D (tyL cI cC cB cS)) (hret : ∀ {pc : Nat} {ls : Array Slot} {H : Heap} {locs : List Loc} {r : Int32} (u : Unit), decode cX1_sideAt pc = .ok (.ireturn, 1) → post r  → va_P D vwCl (wX1_sideAt cI cC cB cS a_t a_t_kinds a_t_hours a_t_lands a_t_owners a_t_treeWalls a_t_treePlaces t_families t_walls t_trees t_owners) H → va_D A (wX1_sideAt cI cC cB cS a_t a_t_kinds a_t_hours a_t_lands a_t_owners a_t_treeWalls a_t_treePlaces t_families t_walls t_trees t_owners) → va_S A H0 H locs → W p l e rmX1_sideAt s m args below meth c H locs 0 0 Q (F0 m pc ls [.int r])) {H : Heap} {locs : List Loc} {ls : Array Slot} (hP : va_P D vwCl (wX1_sideAt cI cC cB cS a_t a_t_kinds a_t_hours a_t_lands a_t_owners a_t_treeWalls a_t_treePlaces t_families t_walls t_trees t_owners) H) (hD : va_D A (wX1_sideAt cI cC cB cS a_t a_t_kinds a_t_hours a_t_lands a_t_owners a_t_treeWalls a_t_treePlaces t_families t_walls t_trees t_owners)) (hS : va_S A H0 H locs) (hl : lv_has ls 3 [(0, .ref a_t), (1, .int x1), (2, .int x2)]) : W p l e rmX1_sideAt s m args below meth c H locs 0 0 Q (F0 m 0 ls []) := by
  obtain ⟨⟨hx, hb, hml, hown, hts⟩, hA, hK, hN⟩ := id X
  unfold P_X1_sideAt at hp
  refine lv_aload_n hx hb dX1_sideAt_0 rfl (lv_at hl 0 rfl) ?_
  refine va_get (D := D) (ci := 1) (v := .ref a_t_owners) (C := RX1) (T := TX1) (N := 9) hx hb hts in_X1_sideAt_X1 hown hK hP 0 rfl rfl 6 (by decide) (hts _ m_X1_sideAt_f21) (fun _ h9 => h9) rfl dX1_sideAt_1 ?_
  refine lv_iconst (v := 2) hx hb dX1_sideAt_4 (by decide) ?_
  refine lv_iload_n hx hb dX1_sideAt_5 rfl (lv_at hl 2 rfl) ?_
  refine lv_imul hx hb dX1_sideAt_6 ?_
  obtain ⟨hi, hp⟩ := hp
  refine va_iald (D := D) hx hb hK hP 1 0 rfl rfl hi dX1_sideAt_7 ?_
  refine lv_iload_n hx hb dX1_sideAt_8 rfl (lv_at hl 1 rfl) ?_
  refine lv_icmp_ne (tgt := 16) hx hb dX1_sideAt_9 (by decide) (fun hc => ?_) (fun hc => ?_)
  · have hp := hp.1 hc
    refine lv_aload_n hx hb dX1_sideAt_16 rfl (lv_at hl 0 rfl) ?_
    refine va_get (D := D) (ci := 1) (v := .ref a_t_owners) (C := RX1) (T := TX1) (N := 9) hx hb hts in_X1_sideAt_X1 hown hK hP 0 rfl rfl 6 (by decide) (hts _ m_X1_sideAt_f21) (fun _ h9 => h9) rfl dX1_sideAt_17 ?_
    refine lv_iconst (v := 2) hx hb dX1_sideAt_20 (by decide) ?_
    refine lv_iload_n hx hb dX1_sideAt_21 rfl (lv_at hl 2 rfl) ?_
    refine lv_imul hx hb dX1_sideAt_22 ?_
    refine lv_iconst (v := 1) hx hb dX1_sideAt_23 (by decide) ?_
    refine lv_iadd hx hb dX1_sideAt_24 ?_
    obtain ⟨hi, hp⟩ := hp
    refine va_iald (D := D) hx hb hK hP 1 0 rfl rfl hi dX1_sideAt_25 ?_
    refine lv_iload_n hx hb dX1_sideAt_26 rfl (lv_at hl 1 rfl) ?_
    refine lv_icmp_ne (tgt := 38) hx hb dX1_sideAt_27 (by decide) (fun hc => ?_) (fun hc => ?_)
    · have hp := hp.1 hc
      refine lv_bipush (v := -4) hx hb dX1_sideAt_38 (by decide) ?_
      exact hret () dX1_sideAt_40 hp hP hD hS
    · have hp := hp.2 hc
      refine lv_iconst (v := 2) hx hb dX1_sideAt_30 (by decide) ?_
      refine lv_iload_n hx hb dX1_sideAt_31 rfl (lv_at hl 2 rfl) ?_
      refine lv_imul hx hb dX1_sideAt_32 ?_
      refine lv_iconst (v := 1) hx hb dX1_sideAt_33 (by decide) ?_
      refine lv_iadd hx hb dX1_sideAt_34 ?_
      refine lv_goto (tgt := 40) hx hb dX1_sideAt_35 (by decide) ?_
      exact hret () dX1_sideAt_40 hp hP hD hS
  · have hp := hp.2 hc
    refine lv_iconst (v := 2) hx hb dX1_sideAt_12 (by decide) ?_
    refine lv_iload_n hx hb dX1_sideAt_13 rfl (lv_at hl 2 rfl) ?_
    refine lv_imul hx hb dX1_sideAt_14 ?_
    exact hret () dX1_sideAt_15 hp hP hD hS
theorem c_X1_sideAt (l : Launch) (D : va_G) (cI cC cB cS : ClassId) (a_t a_t_kinds a_t_hours a_t_lands a_t_owners a_t_treeWalls a_t_treePlaces : Nat) (t_families : Int32) (t_walls : Int32) (t_trees : Int32) (t_owners : Nat → Int32) (x1 : Int32) (x2 : Int32) {post : Int32 → Prop} (hp : P_X1_sideAt x1 x2 t_owners post) : CtrI l yX1_sideAt wsX1_sideAt rmX1_sideAt D (tyL cI cC cB cS) [.ref a_t, .int x1, .int x2] (wX1_sideAt cI cC cB cS a_t a_t_kinds a_t_hours a_t_lands a_t_owners a_t_treeWalls a_t_treePlaces t_families t_walls t_trees t_owners) (fun r (u : Unit) => post r ) (fun u => (wX1_sideAt cI cC cB cS a_t a_t_kinds a_t_hours a_t_lands a_t_owners a_t_treeWalls a_t_treePlaces t_families t_walls t_trees t_owners)) 0 0 :=
  ctrI_of (cc := cX1_sideAt) (maxL := 3) (by decide) rfl (Nat.le_of_ble_eq_true rfl) (fun X hret _ _ _ hP hD hS hl => k_X1_sideAt l D cI cC cB cS a_t a_t_kinds a_t_hours a_t_lands a_t_owners a_t_treeWalls a_t_treePlaces t_families t_walls t_trees t_owners x1 x2 hp X hret hP hD hS hl)
-- shareEvenly(LLeaningWalls$County;II)V
abbrev rmX6_shareEvenly : Room := { frames := 2, cells := 0, slots := 0, locals := 43 }
abbrev wX6_shareEvenly (cI cC cB cS : ClassId) (a_p1 a_p1_kinds a_p1_hours a_p1_lands a_p1_owners a_p1_treeWalls a_p1_treePlaces a_t a_t_land a_t_places a_t_shares a_t_did : Nat) (p1_families : Int32) (p1_walls : Int32) (p1_trees : Int32) (p1_owners : Nat → Int32) (t_days : Int32) (t_sickBits : Int32) (t_shares : Nat → Int32) : va_W := [(a_p1, .inr (1, [.int p1_families, .int p1_walls, .int p1_trees, .ref a_p1_kinds, .ref a_p1_hours, .ref a_p1_lands, .ref a_p1_owners, .ref a_p1_treeWalls, .ref a_p1_treePlaces])), (a_p1_owners, .inl (cI, 18, .inl p1_owners)), (a_t, .inr (6, [.int t_days, .int t_sickBits, .ref a_t_land, .ref a_t_places, .ref a_t_shares, .ref a_t_did])), (a_t_shares, .inl (cI, 18, .inl t_shares))]
theorem hNm_X6_shareEvenly : hNm yX6_shareEvenly 3 := by decide +kernel
theorem m_X6_shareEvenly_f60 : Cond.fieldLink RX6 60 "LeaningWalls$County" "owners" "[I" ∈ wsX6_shareEvenly := by decide +kernel
theorem in_X6_shareEvenly_X1 : ∀ w ∈ wsX10, w ∈ wsX6_shareEvenly := by decide +kernel
theorem m_X6_shareEvenly_f18 : Cond.fieldLink RX6 18 "LeaningWalls$Stand" "shares" "[I" ∈ wsX6_shareEvenly := by decide +kernel
theorem in_X6_shareEvenly_X6 : ∀ w ∈ wsX60, w ∈ wsX6_shareEvenly := by decide +kernel
def P_X6_shareEvenly_b72 (p1_walls : Int32) (p1_owners : Nat → Int32) (k28 : Int32 → Int32 → Int32 → Int32 → (Nat → Int32) → Prop) (post : (Nat → Int32) → Prop) (x2 : Int32) (x5 : Int32) (x6 : Int32) (x7 : Int32) (t_shares : Nat → Int32) : Prop := k28 x2 x5 x6 (x7 + (1 : Int32)) t_shares
def P_X6_shareEvenly_b68 (p1_walls : Int32) (p1_owners : Nat → Int32) (k28 : Int32 → Int32 → Int32 → Int32 → (Nat → Int32) → Prop) (post : (Nat → Int32) → Prop) (x2 : Int32) (x5 : Int32) (x6 : Int32) (x7 : Int32) (y1 : Int32) (y2 : Int32) (t_shares : Nat → Int32) : Prop := vp_in y1 18 ∧ (P_X6_shareEvenly_b72 p1_walls p1_owners k28 post x2 x5 (x6 + (-1 : Int32)) x7 (upd t_shares y1.toNatClampNeg y2))
def P_X6_shareEvenly_L28 (p1_walls : Int32) (p1_owners : Nat → Int32)  (post : (Nat → Int32) → Prop) : Nat → Int32 → Int32 → Int32 → Int32 → (Nat → Int32) → Prop
  | 0, _, _, _, _, _ => False
  | n28 + 1, x2, x5, x6, x7, t_shares => P_X1_sides p1_walls (fun r31 => (r31 ≤ x7 → post t_shares) ∧ (¬ r31 ≤ x7 → vp_in x7 18 ∧ ((¬ (p1_owners x7.toNatClampNeg) = x2 → P_X6_shareEvenly_b72 p1_walls p1_owners (P_X6_shareEvenly_L28 p1_walls p1_owners post n28) post x2 x5 x6 x7 t_shares) ∧ ((p1_owners x7.toNatClampNeg) = x2 → (x6 ≤ 0 → P_X6_shareEvenly_b68 p1_walls p1_owners (P_X6_shareEvenly_L28 p1_walls p1_owners post n28) post x2 x5 x6 x7 x7 x5 t_shares) ∧ (¬ x6 ≤ 0 → P_X6_shareEvenly_b68 p1_walls p1_owners (P_X6_shareEvenly_L28 p1_walls p1_owners post n28) post x2 x5 x6 x7 x7 (x5 + (1 : Int32)) t_shares)))))
def P_X6_shareEvenly (x2 : Int32) (x3 : Int32) (p1_walls : Int32) (p1_owners : Nat → Int32) (t_shares : Nat → Int32) (post : (Nat → Int32) → Prop) : Prop := P_X1_wallsOf x2 p1_walls p1_owners (fun r2 => (¬ r2 = 0 → ¬ r2 = 0 ∧ (¬ r2 = 0 ∧ (∃ n28 : Nat, P_X6_shareEvenly_L28 p1_walls p1_owners post n28 x2 (x3 / r2) (x3 - x3 / r2 * r2) (0 : Int32) t_shares))) ∧ (r2 = 0 → post t_shares))
set_option maxHeartbeats 4000000 in
set_option maxRecDepth 100000 in
theorem k_X6_shareEvenly (l : Launch) (D : va_G) (cI cC cB cS : ClassId) (a_p1 a_p1_kinds a_p1_hours a_p1_lands a_p1_owners a_p1_treeWalls a_p1_treePlaces a_t a_t_land a_t_places a_t_shares a_t_did : Nat) (p1_families : Int32) (p1_walls : Int32) (p1_trees : Int32) (p1_owners : Nat → Int32) (t_days : Int32) (t_sickBits : Int32) (t_shares : Nat → Int32) (x2 : Int32) (x3 : Int32) {post : (Nat → Int32) → Prop} (hp : P_X6_shareEvenly x2 x3 p1_walls p1_owners t_shares post) {p : Program} {e : Env} {s : State} {m : MethodId} {args : Array Value} {below : List Frame} {meth : Method} {c : Code} {Q : State → Prop} {A : Nat → Prop} {H0 : Heap} (X : WCtx p s m args c cX6_shareEvenly 8 wsX6_shareEvenly RX6 H0 A D (tyL cI cC cB cS)) (hret : ∀ {pc : Nat} {ls : Array Slot} {H : Heap} {locs : List Loc} (u : (Nat → Int32)), decode cX6_shareEvenly pc = .ok (.return_, 1) → post u → va_P D vwCl (wX6_shareEvenly cI cC cB cS a_p1 a_p1_kinds a_p1_hours a_p1_lands a_p1_owners a_p1_treeWalls a_p1_treePlaces a_t a_t_land a_t_places a_t_shares a_t_did p1_families p1_walls p1_trees p1_owners t_days t_sickBits u) H → va_D A (wX6_shareEvenly cI cC cB cS a_p1 a_p1_kinds a_p1_hours a_p1_lands a_p1_owners a_p1_treeWalls a_p1_treePlaces a_t a_t_land a_t_places a_t_shares a_t_did p1_families p1_walls p1_trees p1_owners t_days t_sickBits u) → va_S A H0 H locs → W p l e rmX6_shareEvenly s m args below meth c H locs 0 0 Q (F0 m pc ls [])) {H : Heap} {locs : List Loc} {ls : Array Slot} (hP : va_P D vwCl (wX6_shareEvenly cI cC cB cS a_p1 a_p1_kinds a_p1_hours a_p1_lands a_p1_owners a_p1_treeWalls a_p1_treePlaces a_t a_t_land a_t_places a_t_shares a_t_did p1_families p1_walls p1_trees p1_owners t_days t_sickBits t_shares) H) (hD : va_D A (wX6_shareEvenly cI cC cB cS a_p1 a_p1_kinds a_p1_hours a_p1_lands a_p1_owners a_p1_treeWalls a_p1_treePlaces a_t a_t_land a_t_places a_t_shares a_t_did p1_families p1_walls p1_trees p1_owners t_days t_sickBits t_shares)) (hS : va_S A H0 H locs) (hl : lv_has ls 8 [(0, .ref a_t), (1, .ref a_p1), (2, .int x2), (3, .int x3)]) : W p l e rmX6_shareEvenly s m args below meth c H locs 0 0 Q (F0 m 0 ls []) := by
  obtain ⟨⟨hx, hb, hml, hown, hts⟩, hA, hK, hN⟩ := id X
  have L28 : ∀ (n28 : Nat) (x2 : Int32) (x5 : Int32) (x6 : Int32) (x7 : Int32) (t_shares : Nat → Int32)  (H : Heap) (locs : List Loc), va_P D vwCl (wX6_shareEvenly cI cC cB cS a_p1 a_p1_kinds a_p1_hours a_p1_lands a_p1_owners a_p1_treeWalls a_p1_treePlaces a_t a_t_land a_t_places a_t_shares a_t_did p1_families p1_walls p1_trees p1_owners t_days t_sickBits t_shares) H → va_D A (wX6_shareEvenly cI cC cB cS a_p1 a_p1_kinds a_p1_hours a_p1_lands a_p1_owners a_p1_treeWalls a_p1_treePlaces a_t a_t_land a_t_places a_t_shares a_t_did p1_families p1_walls p1_trees p1_owners t_days t_sickBits t_shares) → va_S A H0 H locs → P_X6_shareEvenly_L28 p1_walls p1_owners post n28 x2 x5 x6 x7 t_shares → ∀ ls : Array Slot, lv_has ls 8 [(0, .ref a_t), (1, .ref a_p1), (2, .int x2), (5, .int x5), (6, .int x6), (7, .int x7)] → W p l e rmX6_shareEvenly s m args below meth c H locs 0 0 Q (F0 m 28 ls []) := by
    intro n28
    induction n28 with
    | zero => intro x2 x5 x6 x7 t_shares H locs hP hD hS hp; exact False.elim hp
    | succ n28 ih28 =>
      have J72 : ∀ (x2 : Int32) (x5 : Int32) (x6 : Int32) (x7 : Int32) (t_shares : Nat → Int32)  (H : Heap) (locs : List Loc), va_P D vwCl (wX6_shareEvenly cI cC cB cS a_p1 a_p1_kinds a_p1_hours a_p1_lands a_p1_owners a_p1_treeWalls a_p1_treePlaces a_t a_t_land a_t_places a_t_shares a_t_did p1_families p1_walls p1_trees p1_owners t_days t_sickBits t_shares) H → va_D A (wX6_shareEvenly cI cC cB cS a_p1 a_p1_kinds a_p1_hours a_p1_lands a_p1_owners a_p1_treeWalls a_p1_treePlaces a_t a_t_land a_t_places a_t_shares a_t_did p1_families p1_walls p1_trees p1_owners t_days t_sickBits t_shares) → va_S A H0 H locs → P_X6_shareEvenly_b72 p1_walls p1_owners (P_X6_shareEvenly_L28 p1_walls p1_owners post n28) post x2 x5 x6 x7 t_shares → ∀ ls : Array Slot, lv_has ls 8 [(0, .ref a_t), (1, .ref a_p1), (2, .int x2), (5, .int x5), (6, .int x6), (7, .int x7)] → W p l e rmX6_shareEvenly s m args below meth c H locs 0 0 Q (F0 m 72 ls []) := by
        intro x2 x5 x6 x7 t_shares H locs hP hD hS hp ls hl
        unfold P_X6_shareEvenly_b72 at hp
        refine lv_iinc (v := x7 + (1 : Int32)) (lv' := [(7, .int (x7 + (1 : Int32))), (0, .ref a_t), (1, .ref a_p1), (2, .int x2), (5, .int x5), (6, .int x6)]) hx hb dX6_shareEvenly_72 hl (k := 5) rfl rfl (by decide) rfl (fun ls hl => ?_)
        refine lv_goto (tgt := 28) hx hb dX6_shareEvenly_75 (by decide) ?_
        exact ih28 x2 x5 x6 (x7 + (1 : Int32)) t_shares _ _ hP hD hS hp _ (lv_sub hl [1, 2, 3, 4, 5, 0] rfl)
      have J68 : ∀ (x2 : Int32) (x5 : Int32) (x6 : Int32) (x7 : Int32) (y1 : Int32) (y2 : Int32) (t_shares : Nat → Int32)  (H : Heap) (locs : List Loc), va_P D vwCl (wX6_shareEvenly cI cC cB cS a_p1 a_p1_kinds a_p1_hours a_p1_lands a_p1_owners a_p1_treeWalls a_p1_treePlaces a_t a_t_land a_t_places a_t_shares a_t_did p1_families p1_walls p1_trees p1_owners t_days t_sickBits t_shares) H → va_D A (wX6_shareEvenly cI cC cB cS a_p1 a_p1_kinds a_p1_hours a_p1_lands a_p1_owners a_p1_treeWalls a_p1_treePlaces a_t a_t_land a_t_places a_t_shares a_t_did p1_families p1_walls p1_trees p1_owners t_days t_sickBits t_shares) → va_S A H0 H locs → P_X6_shareEvenly_b68 p1_walls p1_owners (P_X6_shareEvenly_L28 p1_walls p1_owners post n28) post x2 x5 x6 x7 y1 y2 t_shares → ∀ ls : Array Slot, lv_has ls 8 [(0, .ref a_t), (1, .ref a_p1), (2, .int x2), (5, .int x5), (6, .int x6), (7, .int x7)] → W p l e rmX6_shareEvenly s m args below meth c H locs 0 0 Q (F0 m 68 ls [.int y2, .int y1, .ref a_t_shares]) := by
        intro x2 x5 x6 x7 y1 y2 t_shares H locs hP hD hS hp ls hl
        unfold P_X6_shareEvenly_b68 at hp
        obtain ⟨hi, hp⟩ := hp
        refine va_iast (D := D) hx hb hK hP hD hS 3 0 rfl rfl hi dX6_shareEvenly_68 (fun H locs hP hD hS => ?_)
        have hP : va_P D vwCl (wX6_shareEvenly cI cC cB cS a_p1 a_p1_kinds a_p1_hours a_p1_lands a_p1_owners a_p1_treeWalls a_p1_treePlaces a_t a_t_land a_t_places a_t_shares a_t_did p1_families p1_walls p1_trees p1_owners t_days t_sickBits (upd t_shares y1.toNatClampNeg y2)) H := hP
        have hD : va_D A (wX6_shareEvenly cI cC cB cS a_p1 a_p1_kinds a_p1_hours a_p1_lands a_p1_owners a_p1_treeWalls a_p1_treePlaces a_t a_t_land a_t_places a_t_shares a_t_did p1_families p1_walls p1_trees p1_owners t_days t_sickBits (upd t_shares y1.toNatClampNeg y2)) := hD
        refine lv_iinc (v := x6 + (-1 : Int32)) (lv' := [(6, .int (x6 + (-1 : Int32))), (0, .ref a_t), (1, .ref a_p1), (2, .int x2), (5, .int x5), (7, .int x7)]) hx hb dX6_shareEvenly_69 hl (k := 4) rfl rfl (by decide) rfl (fun ls hl => ?_)
        exact J72 x2 x5 (x6 + (-1 : Int32)) x7 (upd t_shares y1.toNatClampNeg y2) _ _ hP hD hS hp _ (lv_sub hl [1, 2, 3, 4, 0, 5] rfl)
      intro x2 x5 x6 x7 t_shares H locs hP hD hS hp ls hl
      rw [P_X6_shareEvenly_L28] at hp
      refine lv_iload hx hb dX6_shareEvenly_28 (lv_at hl 5 rfl) ?_
      refine lv_aload_n hx hb dX6_shareEvenly_30 rfl (lv_at hl 1 rfl) ?_
      refine hcV_i (As := []) (rest := [.int x7]) (fun u => (wX6_shareEvenly cI cC cB cS a_p1 a_p1_kinds a_p1_hours a_p1_lands a_p1_owners a_p1_treeWalls a_p1_treePlaces a_t a_t_land a_t_places a_t_shares a_t_did p1_families p1_walls p1_trees p1_owners t_days t_sickBits t_shares)) X hP hD hS hl.1 [0] [1, 2, 3] [3, 0, 1, 2] 0 0 (@c_X1_sides l D cI cC cB cS a_p1 a_p1_kinds a_p1_hours a_p1_lands a_p1_owners a_p1_treeWalls a_p1_treePlaces p1_families p1_walls p1_trees _ hp) ⟨rfl, rfl⟩ (fun _ => rfl) (by decide +kernel) gX6_shareEvenly_X1_sides rfl rfl rfl rfl hNm_X1_sides ⟨Nat.le_of_ble_eq_true rfl, Nat.le_of_ble_eq_true rfl⟩ (ci := 1) rfl rfl rfl rfl (Nat.le_of_ble_eq_true rfl) dX6_shareEvenly_31 ⟨Nat.le_of_ble_eq_true rfl, Nat.le_of_ble_eq_true rfl⟩ (fun r31 _ H locs hp hP hD hS => ?_)
      try dsimp only at hp
      have hP : va_P D vwCl (wX6_shareEvenly cI cC cB cS a_p1 a_p1_kinds a_p1_hours a_p1_lands a_p1_owners a_p1_treeWalls a_p1_treePlaces a_t a_t_land a_t_places a_t_shares a_t_did p1_families p1_walls p1_trees p1_owners t_days t_sickBits t_shares) H := hP
      have hD : va_D A (wX6_shareEvenly cI cC cB cS a_p1 a_p1_kinds a_p1_hours a_p1_lands a_p1_owners a_p1_treeWalls a_p1_treePlaces a_t a_t_land a_t_places a_t_shares a_t_did p1_families p1_walls p1_trees p1_owners t_days t_sickBits t_shares) := hD
      refine lv_icmp_ge (tgt := 78) hx hb dX6_shareEvenly_34 (by decide) (fun hc => ?_) (fun hc => ?_)
      · have hp := hp.1 hc
        exact hret t_shares dX6_shareEvenly_78 hp hP hD hS
      · have hp := hp.2 hc
        refine lv_aload_n hx hb dX6_shareEvenly_37 rfl (lv_at hl 1 rfl) ?_
        refine va_get (D := D) (ci := 1) (v := .ref a_p1_owners) (C := RX1) (T := TX1) (N := 9) hx hb hts in_X6_shareEvenly_X1 hown hK hP 0 rfl rfl 6 (by decide) (hts _ m_X6_shareEvenly_f60) (fun _ h9 => h9) rfl dX6_shareEvenly_38 ?_
        refine lv_iload hx hb dX6_shareEvenly_41 (lv_at hl 5 rfl) ?_
        obtain ⟨hi, hp⟩ := hp
        refine va_iald (D := D) hx hb hK hP 1 0 rfl rfl hi dX6_shareEvenly_43 ?_
        refine lv_iload_n hx hb dX6_shareEvenly_44 rfl (lv_at hl 2 rfl) ?_
        refine lv_icmp_ne (tgt := 72) hx hb dX6_shareEvenly_45 (by decide) (fun hc => ?_) (fun hc => ?_)
        · have hp := hp.1 hc
          exact J72 x2 x5 x6 x7 t_shares _ _ hP hD hS hp _ (lv_sub hl [0, 1, 2, 3, 4, 5] rfl)
        · have hp := hp.2 hc
          refine lv_aload_n hx hb dX6_shareEvenly_48 rfl (lv_at hl 0 rfl) ?_
          refine va_get (D := D) (ci := 6) (v := .ref a_t_shares) (C := RX6) (T := TX6) (N := 6) hx hb hts in_X6_shareEvenly_X6 hown hK hP 2 rfl rfl 4 (by decide) (hts _ m_X6_shareEvenly_f18) (fun _ h9 => h9) rfl dX6_shareEvenly_49 ?_
          refine lv_iload hx hb dX6_shareEvenly_52 (lv_at hl 5 rfl) ?_
          refine lv_iload hx hb dX6_shareEvenly_54 (lv_at hl 4 rfl) ?_
          refine lv_if_le (tgt := 66) hx hb dX6_shareEvenly_56 (by decide) (fun hc => ?_) (fun hc => ?_)
          · have hp := hp.1 hc
            refine lv_iload hx hb dX6_shareEvenly_66 (lv_at hl 3 rfl) ?_
            exact J68 x2 x5 x6 x7 x7 x5 t_shares _ _ hP hD hS hp _ (lv_sub hl [0, 1, 2, 3, 4, 5] rfl)
          · have hp := hp.2 hc
            refine lv_iload hx hb dX6_shareEvenly_59 (lv_at hl 3 rfl) ?_
            refine lv_iconst (v := 1) hx hb dX6_shareEvenly_61 (by decide) ?_
            refine lv_iadd hx hb dX6_shareEvenly_62 ?_
            refine lv_goto (tgt := 68) hx hb dX6_shareEvenly_63 (by decide) ?_
            exact J68 x2 x5 x6 x7 x7 (x5 + (1 : Int32)) t_shares _ _ hP hD hS hp _ (lv_sub hl [0, 1, 2, 3, 4, 5] rfl)
  unfold P_X6_shareEvenly at hp
  refine lv_aload_n hx hb dX6_shareEvenly_0 rfl (lv_at hl 1 rfl) ?_
  refine lv_iload_n hx hb dX6_shareEvenly_1 rfl (lv_at hl 2 rfl) ?_
  refine hcV_i (As := [.int x2]) (rest := []) (fun u => (wX6_shareEvenly cI cC cB cS a_p1 a_p1_kinds a_p1_hours a_p1_lands a_p1_owners a_p1_treeWalls a_p1_treePlaces a_t a_t_land a_t_places a_t_shares a_t_did p1_families p1_walls p1_trees p1_owners t_days t_sickBits t_shares)) X hP hD hS hl.1 [0, 1] [2, 3] [2, 3, 0, 1] 1 0 (@c_X1_wallsOf l D cI cC cB cS a_p1 a_p1_kinds a_p1_hours a_p1_lands a_p1_owners a_p1_treeWalls a_p1_treePlaces p1_families p1_walls p1_trees p1_owners x2 _ hp) ⟨rfl, rfl⟩ (fun _ => rfl) (by decide +kernel) gX6_shareEvenly_X1_wallsOf rfl rfl rfl rfl hNm_X1_wallsOf ⟨Nat.le_of_ble_eq_true rfl, Nat.le_of_ble_eq_true rfl⟩ (ci := 1) rfl rfl rfl rfl (Nat.le_of_ble_eq_true rfl) dX6_shareEvenly_2 ⟨Nat.le_of_ble_eq_true rfl, Nat.le_of_ble_eq_true rfl⟩ (fun r2 _ H locs hp hP hD hS => ?_)
  try dsimp only at hp
  have hP : va_P D vwCl (wX6_shareEvenly cI cC cB cS a_p1 a_p1_kinds a_p1_hours a_p1_lands a_p1_owners a_p1_treeWalls a_p1_treePlaces a_t a_t_land a_t_places a_t_shares a_t_did p1_families p1_walls p1_trees p1_owners t_days t_sickBits t_shares) H := hP
  have hD : va_D A (wX6_shareEvenly cI cC cB cS a_p1 a_p1_kinds a_p1_hours a_p1_lands a_p1_owners a_p1_treeWalls a_p1_treePlaces a_t a_t_land a_t_places a_t_shares a_t_did p1_families p1_walls p1_trees p1_owners t_days t_sickBits t_shares) := hD
  refine lv_istore (lv' := [(4, .int r2), (0, .ref a_t), (1, .ref a_p1), (2, .int x2), (3, .int x3)]) hx hb dX6_shareEvenly_5 hl (by decide) rfl (fun ls hl => ?_)
  refine lv_iload hx hb dX6_shareEvenly_7 (lv_at hl 0 rfl) ?_
  refine lv_if_ne (tgt := 13) hx hb dX6_shareEvenly_9 (by decide) (fun hc => ?_) (fun hc => ?_)
  · have hp := hp.1 hc
    refine lv_iload_n hx hb dX6_shareEvenly_13 rfl (lv_at hl 4 rfl) ?_
    refine lv_iload hx hb dX6_shareEvenly_14 (lv_at hl 0 rfl) ?_
    obtain ⟨hz, hp⟩ := hp
    refine lv_idiv hx hb dX6_shareEvenly_16 hz ?_
    refine lv_istore (lv' := [(5, .int (x3 / r2)), (4, .int r2), (0, .ref a_t), (1, .ref a_p1), (2, .int x2), (3, .int x3)]) hx hb dX6_shareEvenly_17 hl (by decide) rfl (fun ls hl => ?_)
    refine lv_iload_n hx hb dX6_shareEvenly_19 rfl (lv_at hl 5 rfl) ?_
    refine lv_iload hx hb dX6_shareEvenly_20 (lv_at hl 1 rfl) ?_
    obtain ⟨hz, hp⟩ := hp
    refine lv_irem hx hb dX6_shareEvenly_22 hz ?_
    refine lv_istore (lv' := [(6, .int (x3 - x3 / r2 * r2)), (5, .int (x3 / r2)), (4, .int r2), (0, .ref a_t), (1, .ref a_p1), (2, .int x2), (3, .int x3)]) hx hb dX6_shareEvenly_23 hl (by decide) rfl (fun ls hl => ?_)
    refine lv_iconst (v := 0) hx hb dX6_shareEvenly_25 (by decide) ?_
    refine lv_istore (lv' := [(7, .int (0 : Int32)), (6, .int (x3 - x3 / r2 * r2)), (5, .int (x3 / r2)), (4, .int r2), (0, .ref a_t), (1, .ref a_p1), (2, .int x2), (3, .int x3)]) hx hb dX6_shareEvenly_26 hl (by decide) rfl (fun ls hl => ?_)
    obtain ⟨n28, hp⟩ := hp
    exact L28 n28 x2 (x3 / r2) (x3 - x3 / r2 * r2) (0 : Int32) t_shares _ _ hP hD hS hp _ (lv_sub hl [4, 5, 6, 2, 1, 0] rfl)
  · have hp := hp.2 hc
    exact hret t_shares dX6_shareEvenly_12 hp hP hD hS
theorem c_X6_shareEvenly (l : Launch) (D : va_G) (cI cC cB cS : ClassId) (a_p1 a_p1_kinds a_p1_hours a_p1_lands a_p1_owners a_p1_treeWalls a_p1_treePlaces a_t a_t_land a_t_places a_t_shares a_t_did : Nat) (p1_families : Int32) (p1_walls : Int32) (p1_trees : Int32) (p1_owners : Nat → Int32) (t_days : Int32) (t_sickBits : Int32) (t_shares : Nat → Int32) (x2 : Int32) (x3 : Int32) {post : (Nat → Int32) → Prop} (hp : P_X6_shareEvenly x2 x3 p1_walls p1_owners t_shares post) : CtrV l yX6_shareEvenly wsX6_shareEvenly rmX6_shareEvenly D (tyL cI cC cB cS) [.ref a_t, .ref a_p1, .int x2, .int x3] (wX6_shareEvenly cI cC cB cS a_p1 a_p1_kinds a_p1_hours a_p1_lands a_p1_owners a_p1_treeWalls a_p1_treePlaces a_t a_t_land a_t_places a_t_shares a_t_did p1_families p1_walls p1_trees p1_owners t_days t_sickBits t_shares) (fun (u : (Nat → Int32)) => post u) (fun u => (wX6_shareEvenly cI cC cB cS a_p1 a_p1_kinds a_p1_hours a_p1_lands a_p1_owners a_p1_treeWalls a_p1_treePlaces a_t a_t_land a_t_places a_t_shares a_t_did p1_families p1_walls p1_trees p1_owners t_days t_sickBits u)) 0 0 :=
  ctrV_of (cc := cX6_shareEvenly) (maxL := 8) (by decide) rfl (Nat.le_of_ble_eq_true rfl) (fun X hret _ _ _ hP hD hS hl => k_X6_shareEvenly l D cI cC cB cS a_p1 a_p1_kinds a_p1_hours a_p1_lands a_p1_owners a_p1_treeWalls a_p1_treePlaces a_t a_t_land a_t_places a_t_shares a_t_did p1_families p1_walls p1_trees p1_owners t_days t_sickBits t_shares x2 x3 hp X hret hP hD hS hl)
-- begin(LLeaningWalls$County;)V
abbrev rmX6_begin : Room := { frames := 3, cells := 0, slots := 0, locals := 70 }
abbrev wX6_begin (cI cC cB cS : ClassId) (a_t a_t_land a_t_places a_t_shares a_t_did a_p1 a_p1_kinds a_p1_hours a_p1_lands a_p1_owners a_p1_treeWalls a_p1_treePlaces : Nat) (t_days : Int32) (t_sickBits : Int32) (t_places : Nat → Int32) (t_shares : Nat → Int32) (p1_families : Int32) (p1_walls : Int32) (p1_trees : Int32) (p1_lands : Nat → Int32) (t_land : Nat → Int32) (p1_hours : Nat → Int32) (p1_owners : Nat → Int32) : va_W := [(a_t, .inr (6, [.int t_days, .int t_sickBits, .ref a_t_land, .ref a_t_places, .ref a_t_shares, .ref a_t_did])), (a_t_places, .inl (cI, 9, .inl t_places)), (a_t_shares, .inl (cI, 18, .inl t_shares)), (a_p1, .inr (1, [.int p1_families, .int p1_walls, .int p1_trees, .ref a_p1_kinds, .ref a_p1_hours, .ref a_p1_lands, .ref a_p1_owners, .ref a_p1_treeWalls, .ref a_p1_treePlaces])), (a_p1_lands, .inl (cI, 6, .inl p1_lands)), (a_t_land, .inl (cI, 6, .inl t_land)), (a_p1_hours, .inl (cI, 6, .inl p1_hours)), (a_p1_owners, .inl (cI, 18, .inl p1_owners))]
theorem hNm_X6_begin : hNm yX6_begin 1 := by decide +kernel
theorem m_X6_begin_f31 : Cond.fieldLink RX6 31 "LeaningWalls$County" "families" "I" ∈ wsX6_begin := by decide +kernel
theorem in_X6_begin_X1 : ∀ w ∈ wsX10, w ∈ wsX6_begin := by decide +kernel
theorem m_X6_begin_f9 : Cond.fieldLink RX6 9 "LeaningWalls$Stand" "land" "[I" ∈ wsX6_begin := by decide +kernel
theorem in_X6_begin_X6 : ∀ w ∈ wsX60, w ∈ wsX6_begin := by decide +kernel
theorem m_X6_begin_f36 : Cond.fieldLink RX6 36 "LeaningWalls$County" "lands" "[I" ∈ wsX6_begin := by decide +kernel
theorem m_X6_begin_f39 : Cond.fieldLink RX6 39 "LeaningWalls$County" "hours" "[I" ∈ wsX6_begin := by decide +kernel
theorem m_X6_begin_f18 : Cond.fieldLink RX6 18 "LeaningWalls$Stand" "shares" "[I" ∈ wsX6_begin := by decide +kernel
theorem m_X6_begin_f15 : Cond.fieldLink RX6 15 "LeaningWalls$Stand" "places" "[I" ∈ wsX6_begin := by decide +kernel
theorem m_X6_begin_f24 : Cond.fieldLink RX6 24 "LeaningWalls$Stand" "days" "I" ∈ wsX6_begin := by decide +kernel
theorem m_X6_begin_f28 : Cond.fieldLink RX6 28 "LeaningWalls$Stand" "sickBits" "I" ∈ wsX6_begin := by decide +kernel
def P_X6_begin_L60 (p1_families : Int32) (p1_walls : Int32) (p1_lands : Nat → Int32) (p1_hours : Nat → Int32) (p1_owners : Nat → Int32)  (post : Int32 → Int32 → (Nat → Int32) → (Nat → Int32) → (Nat → Int32) → Prop) : Nat → Int32 → Int32 → Int32 → (Nat → Int32) → (Nat → Int32) → (Nat → Int32) → Prop
  | 0, _, _, _, _, _, _ => False
  | n60 + 1, x2, t_days, t_sickBits, t_places, t_shares, t_land => (p1_families ≤ x2 → post t_days t_sickBits t_places t_shares t_land) ∧ (¬ p1_families ≤ x2 → vp_in x2 6 ∧ (vp_in x2 6 ∧ (vp_in x2 6 ∧ (P_X6_shareEvenly x2 (p1_hours x2.toNatClampNeg) p1_walls p1_owners t_shares (fun t_shares_89 => P_X6_begin_L60 p1_families p1_walls p1_lands p1_hours p1_owners post n60 (x2 + (1 : Int32)) t_days t_sickBits t_places t_shares_89 (upd t_land x2.toNatClampNeg (p1_lands x2.toNatClampNeg)))))))
def P_X6_begin_L36 (p1_families : Int32) (p1_walls : Int32) (p1_lands : Nat → Int32) (p1_hours : Nat → Int32) (p1_owners : Nat → Int32)  (post : Int32 → Int32 → (Nat → Int32) → (Nat → Int32) → (Nat → Int32) → Prop) : Nat → Int32 → Int32 → Int32 → (Nat → Int32) → (Nat → Int32) → (Nat → Int32) → Prop
  | 0, _, _, _, _, _, _ => False
  | n36 + 1, x2, t_days, t_sickBits, t_places, t_shares, t_land => ((18 : Int32) ≤ x2 → ∃ n60 : Nat, P_X6_begin_L60 p1_families p1_walls p1_lands p1_hours p1_owners post n60 (0 : Int32) t_days t_sickBits t_places t_shares t_land) ∧ (¬ (18 : Int32) ≤ x2 → vp_in x2 18 ∧ (P_X6_begin_L36 p1_families p1_walls p1_lands p1_hours p1_owners post n36 (x2 + (1 : Int32)) t_days t_sickBits t_places (upd t_shares x2.toNatClampNeg (0 : Int32)) t_land))
def P_X6_begin_L12 (p1_families : Int32) (p1_walls : Int32) (p1_lands : Nat → Int32) (p1_hours : Nat → Int32) (p1_owners : Nat → Int32)  (post : Int32 → Int32 → (Nat → Int32) → (Nat → Int32) → (Nat → Int32) → Prop) : Nat → Int32 → Int32 → Int32 → (Nat → Int32) → (Nat → Int32) → (Nat → Int32) → Prop
  | 0, _, _, _, _, _, _ => False
  | n12 + 1, x2, t_days, t_sickBits, t_places, t_shares, t_land => ((9 : Int32) ≤ x2 → ∃ n36 : Nat, P_X6_begin_L36 p1_families p1_walls p1_lands p1_hours p1_owners post n36 (0 : Int32) t_days t_sickBits t_places t_shares t_land) ∧ (¬ (9 : Int32) ≤ x2 → vp_in x2 9 ∧ (P_X6_begin_L12 p1_families p1_walls p1_lands p1_hours p1_owners post n12 (x2 + (1 : Int32)) t_days t_sickBits (upd t_places x2.toNatClampNeg (0 : Int32)) t_shares t_land))
def P_X6_begin  (t_days : Int32) (t_sickBits : Int32) (t_places : Nat → Int32) (t_shares : Nat → Int32) (p1_families : Int32) (p1_walls : Int32) (p1_lands : Nat → Int32) (t_land : Nat → Int32) (p1_hours : Nat → Int32) (p1_owners : Nat → Int32) (post : Int32 → Int32 → (Nat → Int32) → (Nat → Int32) → (Nat → Int32) → Prop) : Prop := ∃ n12 : Nat, P_X6_begin_L12 p1_families p1_walls p1_lands p1_hours p1_owners post n12 (0 : Int32) (0 : Int32) (0 : Int32) t_places t_shares t_land
set_option maxHeartbeats 4000000 in
set_option maxRecDepth 100000 in
theorem k_X6_begin (l : Launch) (D : va_G) (cI cC cB cS : ClassId) (a_t a_t_land a_t_places a_t_shares a_t_did a_p1 a_p1_kinds a_p1_hours a_p1_lands a_p1_owners a_p1_treeWalls a_p1_treePlaces : Nat) (t_days : Int32) (t_sickBits : Int32) (t_places : Nat → Int32) (t_shares : Nat → Int32) (p1_families : Int32) (p1_walls : Int32) (p1_trees : Int32) (p1_lands : Nat → Int32) (t_land : Nat → Int32) (p1_hours : Nat → Int32) (p1_owners : Nat → Int32)  {post : Int32 → Int32 → (Nat → Int32) → (Nat → Int32) → (Nat → Int32) → Prop} (hp : P_X6_begin  t_days t_sickBits t_places t_shares p1_families p1_walls p1_lands t_land p1_hours p1_owners post) {p : Program} {e : Env} {s : State} {m : MethodId} {args : Array Value} {below : List Frame} {meth : Method} {c : Code} {Q : State → Prop} {A : Nat → Prop} {H0 : Heap} (X : WCtx p s m args c cX6_begin 3 wsX6_begin RX6 H0 A D (tyL cI cC cB cS)) (hret : ∀ {pc : Nat} {ls : Array Slot} {H : Heap} {locs : List Loc} (u : Int32 × Int32 × (Nat → Int32) × (Nat → Int32) × (Nat → Int32)), decode cX6_begin pc = .ok (.return_, 1) → post u.1 u.2.1 u.2.2.1 u.2.2.2.1 u.2.2.2.2 → va_P D vwCl (wX6_begin cI cC cB cS a_t a_t_land a_t_places a_t_shares a_t_did a_p1 a_p1_kinds a_p1_hours a_p1_lands a_p1_owners a_p1_treeWalls a_p1_treePlaces u.1 u.2.1 u.2.2.1 u.2.2.2.1 p1_families p1_walls p1_trees p1_lands u.2.2.2.2 p1_hours p1_owners) H → va_D A (wX6_begin cI cC cB cS a_t a_t_land a_t_places a_t_shares a_t_did a_p1 a_p1_kinds a_p1_hours a_p1_lands a_p1_owners a_p1_treeWalls a_p1_treePlaces u.1 u.2.1 u.2.2.1 u.2.2.2.1 p1_families p1_walls p1_trees p1_lands u.2.2.2.2 p1_hours p1_owners) → va_S A H0 H locs → W p l e rmX6_begin s m args below meth c H locs 0 0 Q (F0 m pc ls [])) {H : Heap} {locs : List Loc} {ls : Array Slot} (hP : va_P D vwCl (wX6_begin cI cC cB cS a_t a_t_land a_t_places a_t_shares a_t_did a_p1 a_p1_kinds a_p1_hours a_p1_lands a_p1_owners a_p1_treeWalls a_p1_treePlaces t_days t_sickBits t_places t_shares p1_families p1_walls p1_trees p1_lands t_land p1_hours p1_owners) H) (hD : va_D A (wX6_begin cI cC cB cS a_t a_t_land a_t_places a_t_shares a_t_did a_p1 a_p1_kinds a_p1_hours a_p1_lands a_p1_owners a_p1_treeWalls a_p1_treePlaces t_days t_sickBits t_places t_shares p1_families p1_walls p1_trees p1_lands t_land p1_hours p1_owners)) (hS : va_S A H0 H locs) (hl : lv_has ls 3 [(0, .ref a_t), (1, .ref a_p1)]) : W p l e rmX6_begin s m args below meth c H locs 0 0 Q (F0 m 0 ls []) := by
  obtain ⟨⟨hx, hb, hml, hown, hts⟩, hA, hK, hN⟩ := id X
  have L60 : ∀ (n60 : Nat) (x2 : Int32) (t_days : Int32) (t_sickBits : Int32) (t_places : Nat → Int32) (t_shares : Nat → Int32) (t_land : Nat → Int32)  (H : Heap) (locs : List Loc), va_P D vwCl (wX6_begin cI cC cB cS a_t a_t_land a_t_places a_t_shares a_t_did a_p1 a_p1_kinds a_p1_hours a_p1_lands a_p1_owners a_p1_treeWalls a_p1_treePlaces t_days t_sickBits t_places t_shares p1_families p1_walls p1_trees p1_lands t_land p1_hours p1_owners) H → va_D A (wX6_begin cI cC cB cS a_t a_t_land a_t_places a_t_shares a_t_did a_p1 a_p1_kinds a_p1_hours a_p1_lands a_p1_owners a_p1_treeWalls a_p1_treePlaces t_days t_sickBits t_places t_shares p1_families p1_walls p1_trees p1_lands t_land p1_hours p1_owners) → va_S A H0 H locs → P_X6_begin_L60 p1_families p1_walls p1_lands p1_hours p1_owners post n60 x2 t_days t_sickBits t_places t_shares t_land → ∀ ls : Array Slot, lv_has ls 3 [(0, .ref a_t), (1, .ref a_p1), (2, .int x2)] → W p l e rmX6_begin s m args below meth c H locs 0 0 Q (F0 m 60 ls []) := by
    intro n60
    induction n60 with
    | zero => intro x2 t_days t_sickBits t_places t_shares t_land H locs hP hD hS hp; exact False.elim hp
    | succ n60 ih60 =>
      intro x2 t_days t_sickBits t_places t_shares t_land H locs hP hD hS hp ls hl
      rw [P_X6_begin_L60] at hp
      refine lv_iload_n hx hb dX6_begin_60 rfl (lv_at hl 2 rfl) ?_
      refine lv_aload_n hx hb dX6_begin_61 rfl (lv_at hl 1 rfl) ?_
      refine va_get (D := D) (ci := 1) (v := .int p1_families) (C := RX1) (T := TX1) (N := 9) hx hb hts in_X6_begin_X1 hown hK hP 3 rfl rfl 0 (by decide) (hts _ m_X6_begin_f31) (fun _ h9 => h9) rfl dX6_begin_62 ?_
      refine lv_icmp_ge (tgt := 98) hx hb dX6_begin_65 (by decide) (fun hc => ?_) (fun hc => ?_)
      · have hp := hp.1 hc
        exact hret (t_days, t_sickBits, t_places, t_shares, t_land) dX6_begin_98 hp hP hD hS
      · have hp := hp.2 hc
        refine lv_aload_n hx hb dX6_begin_68 rfl (lv_at hl 0 rfl) ?_
        refine va_get (D := D) (ci := 6) (v := .ref a_t_land) (C := RX6) (T := TX6) (N := 6) hx hb hts in_X6_begin_X6 hown hK hP 0 rfl rfl 2 (by decide) (hts _ m_X6_begin_f9) (fun _ h9 => h9) rfl dX6_begin_69 ?_
        refine lv_iload_n hx hb dX6_begin_72 rfl (lv_at hl 2 rfl) ?_
        refine lv_aload_n hx hb dX6_begin_73 rfl (lv_at hl 1 rfl) ?_
        refine va_get (D := D) (ci := 1) (v := .ref a_p1_lands) (C := RX1) (T := TX1) (N := 9) hx hb hts in_X6_begin_X1 hown hK hP 3 rfl rfl 5 (by decide) (hts _ m_X6_begin_f36) (fun _ h9 => h9) rfl dX6_begin_74 ?_
        refine lv_iload_n hx hb dX6_begin_77 rfl (lv_at hl 2 rfl) ?_
        obtain ⟨hi, hp⟩ := hp
        refine va_iald (D := D) hx hb hK hP 4 0 rfl rfl hi dX6_begin_78 ?_
        obtain ⟨hi, hp⟩ := hp
        refine va_iast (D := D) hx hb hK hP hD hS 5 0 rfl rfl hi dX6_begin_79 (fun H locs hP hD hS => ?_)
        have hP : va_P D vwCl (wX6_begin cI cC cB cS a_t a_t_land a_t_places a_t_shares a_t_did a_p1 a_p1_kinds a_p1_hours a_p1_lands a_p1_owners a_p1_treeWalls a_p1_treePlaces t_days t_sickBits t_places t_shares p1_families p1_walls p1_trees p1_lands (upd t_land x2.toNatClampNeg (p1_lands x2.toNatClampNeg)) p1_hours p1_owners) H := hP
        have hD : va_D A (wX6_begin cI cC cB cS a_t a_t_land a_t_places a_t_shares a_t_did a_p1 a_p1_kinds a_p1_hours a_p1_lands a_p1_owners a_p1_treeWalls a_p1_treePlaces t_days t_sickBits t_places t_shares p1_families p1_walls p1_trees p1_lands (upd t_land x2.toNatClampNeg (p1_lands x2.toNatClampNeg)) p1_hours p1_owners) := hD
        refine lv_aload_n hx hb dX6_begin_80 rfl (lv_at hl 0 rfl) ?_
        refine lv_aload_n hx hb dX6_begin_81 rfl (lv_at hl 1 rfl) ?_
        refine lv_iload_n hx hb dX6_begin_82 rfl (lv_at hl 2 rfl) ?_
        refine lv_aload_n hx hb dX6_begin_83 rfl (lv_at hl 1 rfl) ?_
        refine va_get (D := D) (ci := 1) (v := .ref a_p1_hours) (C := RX1) (T := TX1) (N := 9) hx hb hts in_X6_begin_X1 hown hK hP 3 rfl rfl 4 (by decide) (hts _ m_X6_begin_f39) (fun _ h9 => h9) rfl dX6_begin_84 ?_
        refine lv_iload_n hx hb dX6_begin_87 rfl (lv_at hl 2 rfl) ?_
        obtain ⟨hi, hp⟩ := hp
        refine va_iald (D := D) hx hb hK hP 6 0 rfl rfl hi dX6_begin_88 ?_
        refine hcV_v (As := [.ref a_p1, .int x2, .int (p1_hours x2.toNatClampNeg)]) (rest := []) (fun u => (wX6_begin cI cC cB cS a_t a_t_land a_t_places a_t_shares a_t_did a_p1 a_p1_kinds a_p1_hours a_p1_lands a_p1_owners a_p1_treeWalls a_p1_treePlaces t_days t_sickBits t_places u p1_families p1_walls p1_trees p1_lands (upd t_land x2.toNatClampNeg (p1_lands x2.toNatClampNeg)) p1_hours p1_owners)) X hP hD hS hl.1 [3, 7, 0, 2] [1, 4, 5, 6] [6, 0, 7, 4, 1, 2, 3, 5] 3 0 (@c_X6_shareEvenly l D cI cC cB cS a_p1 a_p1_kinds a_p1_hours a_p1_lands a_p1_owners a_p1_treeWalls a_p1_treePlaces a_t a_t_land a_t_places a_t_shares a_t_did p1_families p1_walls p1_trees p1_owners t_days t_sickBits t_shares x2 (p1_hours x2.toNatClampNeg) _ hp) ⟨rfl, rfl⟩ (fun _ => rfl) (by decide +kernel) gX6_begin_X6_shareEvenly rfl rfl rfl rfl hNm_X6_shareEvenly ⟨Nat.le_of_ble_eq_true rfl, Nat.le_of_ble_eq_true rfl⟩ (ci := 6) rfl rfl rfl rfl (Nat.le_of_ble_eq_true rfl) dX6_begin_89 ⟨Nat.le_of_ble_eq_true rfl, Nat.le_of_ble_eq_true rfl⟩ (fun t_shares_89 H locs hp hP hD hS => ?_)
        try dsimp only at hp
        have hP : va_P D vwCl (wX6_begin cI cC cB cS a_t a_t_land a_t_places a_t_shares a_t_did a_p1 a_p1_kinds a_p1_hours a_p1_lands a_p1_owners a_p1_treeWalls a_p1_treePlaces t_days t_sickBits t_places t_shares_89 p1_families p1_walls p1_trees p1_lands (upd t_land x2.toNatClampNeg (p1_lands x2.toNatClampNeg)) p1_hours p1_owners) H := hP
        have hD : va_D A (wX6_begin cI cC cB cS a_t a_t_land a_t_places a_t_shares a_t_did a_p1 a_p1_kinds a_p1_hours a_p1_lands a_p1_owners a_p1_treeWalls a_p1_treePlaces t_days t_sickBits t_places t_shares_89 p1_families p1_walls p1_trees p1_lands (upd t_land x2.toNatClampNeg (p1_lands x2.toNatClampNeg)) p1_hours p1_owners) := hD
        refine lv_iinc (v := x2 + (1 : Int32)) (lv' := [(2, .int (x2 + (1 : Int32))), (0, .ref a_t), (1, .ref a_p1)]) hx hb dX6_begin_92 hl (k := 2) rfl rfl (by decide) rfl (fun ls hl => ?_)
        refine lv_goto (tgt := 60) hx hb dX6_begin_95 (by decide) ?_
        exact ih60 (x2 + (1 : Int32)) t_days t_sickBits t_places t_shares_89 (upd t_land x2.toNatClampNeg (p1_lands x2.toNatClampNeg)) _ _ hP hD hS hp _ (lv_sub hl [1, 2, 0] rfl)
  have L36 : ∀ (n36 : Nat) (x2 : Int32) (t_days : Int32) (t_sickBits : Int32) (t_places : Nat → Int32) (t_shares : Nat → Int32) (t_land : Nat → Int32)  (H : Heap) (locs : List Loc), va_P D vwCl (wX6_begin cI cC cB cS a_t a_t_land a_t_places a_t_shares a_t_did a_p1 a_p1_kinds a_p1_hours a_p1_lands a_p1_owners a_p1_treeWalls a_p1_treePlaces t_days t_sickBits t_places t_shares p1_families p1_walls p1_trees p1_lands t_land p1_hours p1_owners) H → va_D A (wX6_begin cI cC cB cS a_t a_t_land a_t_places a_t_shares a_t_did a_p1 a_p1_kinds a_p1_hours a_p1_lands a_p1_owners a_p1_treeWalls a_p1_treePlaces t_days t_sickBits t_places t_shares p1_families p1_walls p1_trees p1_lands t_land p1_hours p1_owners) → va_S A H0 H locs → P_X6_begin_L36 p1_families p1_walls p1_lands p1_hours p1_owners post n36 x2 t_days t_sickBits t_places t_shares t_land → ∀ ls : Array Slot, lv_has ls 3 [(0, .ref a_t), (1, .ref a_p1), (2, .int x2)] → W p l e rmX6_begin s m args below meth c H locs 0 0 Q (F0 m 36 ls []) := by
    intro n36
    induction n36 with
    | zero => intro x2 t_days t_sickBits t_places t_shares t_land H locs hP hD hS hp; exact False.elim hp
    | succ n36 ih36 =>
      intro x2 t_days t_sickBits t_places t_shares t_land H locs hP hD hS hp ls hl
      rw [P_X6_begin_L36] at hp
      refine lv_iload_n hx hb dX6_begin_36 rfl (lv_at hl 2 rfl) ?_
      refine lv_aload_n hx hb dX6_begin_37 rfl (lv_at hl 0 rfl) ?_
      refine va_get (D := D) (ci := 6) (v := .ref a_t_shares) (C := RX6) (T := TX6) (N := 6) hx hb hts in_X6_begin_X6 hown hK hP 0 rfl rfl 4 (by decide) (hts _ m_X6_begin_f18) (fun _ h9 => h9) rfl dX6_begin_38 ?_
      refine va_alen (D := D) (v := 18) hx hb hK hP 2 0 rfl rfl rfl dX6_begin_41 ?_
      refine lv_icmp_ge (tgt := 58) hx hb dX6_begin_42 (by decide) (fun hc => ?_) (fun hc => ?_)
      · have hp := hp.1 hc
        refine lv_iconst (v := 0) hx hb dX6_begin_58 (by decide) ?_
        refine lv_istore_n (lv' := [(2, .int (0 : Int32)), (0, .ref a_t), (1, .ref a_p1)]) hx hb dX6_begin_59 rfl hl (by decide) rfl (fun ls hl => ?_)
        obtain ⟨n60, hp⟩ := hp
        exact L60 n60 (0 : Int32) t_days t_sickBits t_places t_shares t_land _ _ hP hD hS hp _ (lv_sub hl [1, 2, 0] rfl)
      · have hp := hp.2 hc
        refine lv_aload_n hx hb dX6_begin_45 rfl (lv_at hl 0 rfl) ?_
        refine va_get (D := D) (ci := 6) (v := .ref a_t_shares) (C := RX6) (T := TX6) (N := 6) hx hb hts in_X6_begin_X6 hown hK hP 0 rfl rfl 4 (by decide) (hts _ m_X6_begin_f18) (fun _ h9 => h9) rfl dX6_begin_46 ?_
        refine lv_iload_n hx hb dX6_begin_49 rfl (lv_at hl 2 rfl) ?_
        refine lv_iconst (v := 0) hx hb dX6_begin_50 (by decide) ?_
        obtain ⟨hi, hp⟩ := hp
        refine va_iast (D := D) hx hb hK hP hD hS 2 0 rfl rfl hi dX6_begin_51 (fun H locs hP hD hS => ?_)
        have hP : va_P D vwCl (wX6_begin cI cC cB cS a_t a_t_land a_t_places a_t_shares a_t_did a_p1 a_p1_kinds a_p1_hours a_p1_lands a_p1_owners a_p1_treeWalls a_p1_treePlaces t_days t_sickBits t_places (upd t_shares x2.toNatClampNeg (0 : Int32)) p1_families p1_walls p1_trees p1_lands t_land p1_hours p1_owners) H := hP
        have hD : va_D A (wX6_begin cI cC cB cS a_t a_t_land a_t_places a_t_shares a_t_did a_p1 a_p1_kinds a_p1_hours a_p1_lands a_p1_owners a_p1_treeWalls a_p1_treePlaces t_days t_sickBits t_places (upd t_shares x2.toNatClampNeg (0 : Int32)) p1_families p1_walls p1_trees p1_lands t_land p1_hours p1_owners) := hD
        refine lv_iinc (v := x2 + (1 : Int32)) (lv' := [(2, .int (x2 + (1 : Int32))), (0, .ref a_t), (1, .ref a_p1)]) hx hb dX6_begin_52 hl (k := 2) rfl rfl (by decide) rfl (fun ls hl => ?_)
        refine lv_goto (tgt := 36) hx hb dX6_begin_55 (by decide) ?_
        exact ih36 (x2 + (1 : Int32)) t_days t_sickBits t_places (upd t_shares x2.toNatClampNeg (0 : Int32)) t_land _ _ hP hD hS hp _ (lv_sub hl [1, 2, 0] rfl)
  have L12 : ∀ (n12 : Nat) (x2 : Int32) (t_days : Int32) (t_sickBits : Int32) (t_places : Nat → Int32) (t_shares : Nat → Int32) (t_land : Nat → Int32)  (H : Heap) (locs : List Loc), va_P D vwCl (wX6_begin cI cC cB cS a_t a_t_land a_t_places a_t_shares a_t_did a_p1 a_p1_kinds a_p1_hours a_p1_lands a_p1_owners a_p1_treeWalls a_p1_treePlaces t_days t_sickBits t_places t_shares p1_families p1_walls p1_trees p1_lands t_land p1_hours p1_owners) H → va_D A (wX6_begin cI cC cB cS a_t a_t_land a_t_places a_t_shares a_t_did a_p1 a_p1_kinds a_p1_hours a_p1_lands a_p1_owners a_p1_treeWalls a_p1_treePlaces t_days t_sickBits t_places t_shares p1_families p1_walls p1_trees p1_lands t_land p1_hours p1_owners) → va_S A H0 H locs → P_X6_begin_L12 p1_families p1_walls p1_lands p1_hours p1_owners post n12 x2 t_days t_sickBits t_places t_shares t_land → ∀ ls : Array Slot, lv_has ls 3 [(0, .ref a_t), (1, .ref a_p1), (2, .int x2)] → W p l e rmX6_begin s m args below meth c H locs 0 0 Q (F0 m 12 ls []) := by
    intro n12
    induction n12 with
    | zero => intro x2 t_days t_sickBits t_places t_shares t_land H locs hP hD hS hp; exact False.elim hp
    | succ n12 ih12 =>
      intro x2 t_days t_sickBits t_places t_shares t_land H locs hP hD hS hp ls hl
      rw [P_X6_begin_L12] at hp
      refine lv_iload_n hx hb dX6_begin_12 rfl (lv_at hl 2 rfl) ?_
      refine lv_aload_n hx hb dX6_begin_13 rfl (lv_at hl 0 rfl) ?_
      refine va_get (D := D) (ci := 6) (v := .ref a_t_places) (C := RX6) (T := TX6) (N := 6) hx hb hts in_X6_begin_X6 hown hK hP 0 rfl rfl 3 (by decide) (hts _ m_X6_begin_f15) (fun _ h9 => h9) rfl dX6_begin_14 ?_
      refine va_alen (D := D) (v := 9) hx hb hK hP 1 0 rfl rfl rfl dX6_begin_17 ?_
      refine lv_icmp_ge (tgt := 34) hx hb dX6_begin_18 (by decide) (fun hc => ?_) (fun hc => ?_)
      · have hp := hp.1 hc
        refine lv_iconst (v := 0) hx hb dX6_begin_34 (by decide) ?_
        refine lv_istore_n (lv' := [(2, .int (0 : Int32)), (0, .ref a_t), (1, .ref a_p1)]) hx hb dX6_begin_35 rfl hl (by decide) rfl (fun ls hl => ?_)
        obtain ⟨n36, hp⟩ := hp
        exact L36 n36 (0 : Int32) t_days t_sickBits t_places t_shares t_land _ _ hP hD hS hp _ (lv_sub hl [1, 2, 0] rfl)
      · have hp := hp.2 hc
        refine lv_aload_n hx hb dX6_begin_21 rfl (lv_at hl 0 rfl) ?_
        refine va_get (D := D) (ci := 6) (v := .ref a_t_places) (C := RX6) (T := TX6) (N := 6) hx hb hts in_X6_begin_X6 hown hK hP 0 rfl rfl 3 (by decide) (hts _ m_X6_begin_f15) (fun _ h9 => h9) rfl dX6_begin_22 ?_
        refine lv_iload_n hx hb dX6_begin_25 rfl (lv_at hl 2 rfl) ?_
        refine lv_iconst (v := 0) hx hb dX6_begin_26 (by decide) ?_
        obtain ⟨hi, hp⟩ := hp
        refine va_iast (D := D) hx hb hK hP hD hS 1 0 rfl rfl hi dX6_begin_27 (fun H locs hP hD hS => ?_)
        have hP : va_P D vwCl (wX6_begin cI cC cB cS a_t a_t_land a_t_places a_t_shares a_t_did a_p1 a_p1_kinds a_p1_hours a_p1_lands a_p1_owners a_p1_treeWalls a_p1_treePlaces t_days t_sickBits (upd t_places x2.toNatClampNeg (0 : Int32)) t_shares p1_families p1_walls p1_trees p1_lands t_land p1_hours p1_owners) H := hP
        have hD : va_D A (wX6_begin cI cC cB cS a_t a_t_land a_t_places a_t_shares a_t_did a_p1 a_p1_kinds a_p1_hours a_p1_lands a_p1_owners a_p1_treeWalls a_p1_treePlaces t_days t_sickBits (upd t_places x2.toNatClampNeg (0 : Int32)) t_shares p1_families p1_walls p1_trees p1_lands t_land p1_hours p1_owners) := hD
        refine lv_iinc (v := x2 + (1 : Int32)) (lv' := [(2, .int (x2 + (1 : Int32))), (0, .ref a_t), (1, .ref a_p1)]) hx hb dX6_begin_28 hl (k := 2) rfl rfl (by decide) rfl (fun ls hl => ?_)
        refine lv_goto (tgt := 12) hx hb dX6_begin_31 (by decide) ?_
        exact ih12 (x2 + (1 : Int32)) t_days t_sickBits (upd t_places x2.toNatClampNeg (0 : Int32)) t_shares t_land _ _ hP hD hS hp _ (lv_sub hl [1, 2, 0] rfl)
  unfold P_X6_begin at hp
  refine lv_aload_n hx hb dX6_begin_0 rfl (lv_at hl 0 rfl) ?_
  refine lv_iconst (v := 0) hx hb dX6_begin_1 (by decide) ?_
  refine va_put (D := D) (ci := 6) (v := .int (0 : Int32)) (ty := .int) (C := RX6) (T := TX6) (N := 6) hx hb hts in_X6_begin_X6 tyX6 tyX6_ok nmX6 hown hK hP hD hS 0 rfl rfl 0 (by decide) (hts _ m_X6_begin_f24) (fun _ h9 => h9) rfl (by decide +kernel) rfl rfl (Nat.le_of_ble_eq_true rfl) dX6_begin_2 (fun H locs hP hD hS => ?_)
  have hP : va_P D vwCl (wX6_begin cI cC cB cS a_t a_t_land a_t_places a_t_shares a_t_did a_p1 a_p1_kinds a_p1_hours a_p1_lands a_p1_owners a_p1_treeWalls a_p1_treePlaces (0 : Int32) t_sickBits t_places t_shares p1_families p1_walls p1_trees p1_lands t_land p1_hours p1_owners) H := hP
  have hD : va_D A (wX6_begin cI cC cB cS a_t a_t_land a_t_places a_t_shares a_t_did a_p1 a_p1_kinds a_p1_hours a_p1_lands a_p1_owners a_p1_treeWalls a_p1_treePlaces (0 : Int32) t_sickBits t_places t_shares p1_families p1_walls p1_trees p1_lands t_land p1_hours p1_owners) := hD
  refine lv_aload_n hx hb dX6_begin_5 rfl (lv_at hl 0 rfl) ?_
  refine lv_iconst (v := 0) hx hb dX6_begin_6 (by decide) ?_
  refine va_put (D := D) (ci := 6) (v := .int (0 : Int32)) (ty := .int) (C := RX6) (T := TX6) (N := 6) hx hb hts in_X6_begin_X6 tyX6 tyX6_ok nmX6 hown hK hP hD hS 0 rfl rfl 1 (by decide) (hts _ m_X6_begin_f28) (fun _ h9 => h9) rfl (by decide +kernel) rfl rfl (Nat.le_of_ble_eq_true rfl) dX6_begin_7 (fun H locs hP hD hS => ?_)
  have hP : va_P D vwCl (wX6_begin cI cC cB cS a_t a_t_land a_t_places a_t_shares a_t_did a_p1 a_p1_kinds a_p1_hours a_p1_lands a_p1_owners a_p1_treeWalls a_p1_treePlaces (0 : Int32) (0 : Int32) t_places t_shares p1_families p1_walls p1_trees p1_lands t_land p1_hours p1_owners) H := hP
  have hD : va_D A (wX6_begin cI cC cB cS a_t a_t_land a_t_places a_t_shares a_t_did a_p1 a_p1_kinds a_p1_hours a_p1_lands a_p1_owners a_p1_treeWalls a_p1_treePlaces (0 : Int32) (0 : Int32) t_places t_shares p1_families p1_walls p1_trees p1_lands t_land p1_hours p1_owners) := hD
  refine lv_iconst (v := 0) hx hb dX6_begin_10 (by decide) ?_
  refine lv_istore_n (lv' := [(2, .int (0 : Int32)), (0, .ref a_t), (1, .ref a_p1)]) hx hb dX6_begin_11 rfl hl (by decide) rfl (fun ls hl => ?_)
  obtain ⟨n12, hp⟩ := hp
  exact L12 n12 (0 : Int32) (0 : Int32) (0 : Int32) t_places t_shares t_land _ _ hP hD hS hp _ (lv_sub hl [1, 2, 0] rfl)
theorem c_X6_begin (l : Launch) (D : va_G) (cI cC cB cS : ClassId) (a_t a_t_land a_t_places a_t_shares a_t_did a_p1 a_p1_kinds a_p1_hours a_p1_lands a_p1_owners a_p1_treeWalls a_p1_treePlaces : Nat) (t_days : Int32) (t_sickBits : Int32) (t_places : Nat → Int32) (t_shares : Nat → Int32) (p1_families : Int32) (p1_walls : Int32) (p1_trees : Int32) (p1_lands : Nat → Int32) (t_land : Nat → Int32) (p1_hours : Nat → Int32) (p1_owners : Nat → Int32)  {post : Int32 → Int32 → (Nat → Int32) → (Nat → Int32) → (Nat → Int32) → Prop} (hp : P_X6_begin  t_days t_sickBits t_places t_shares p1_families p1_walls p1_lands t_land p1_hours p1_owners post) : CtrV l yX6_begin wsX6_begin rmX6_begin D (tyL cI cC cB cS) [.ref a_t, .ref a_p1] (wX6_begin cI cC cB cS a_t a_t_land a_t_places a_t_shares a_t_did a_p1 a_p1_kinds a_p1_hours a_p1_lands a_p1_owners a_p1_treeWalls a_p1_treePlaces t_days t_sickBits t_places t_shares p1_families p1_walls p1_trees p1_lands t_land p1_hours p1_owners) (fun (u : Int32 × Int32 × (Nat → Int32) × (Nat → Int32) × (Nat → Int32)) => post u.1 u.2.1 u.2.2.1 u.2.2.2.1 u.2.2.2.2) (fun u => (wX6_begin cI cC cB cS a_t a_t_land a_t_places a_t_shares a_t_did a_p1 a_p1_kinds a_p1_hours a_p1_lands a_p1_owners a_p1_treeWalls a_p1_treePlaces u.1 u.2.1 u.2.2.1 u.2.2.2.1 p1_families p1_walls p1_trees p1_lands u.2.2.2.2 p1_hours p1_owners)) 0 0 :=
  ctrV_of (cc := cX6_begin) (maxL := 3) (by decide) rfl (Nat.le_of_ble_eq_true rfl) (fun X hret _ _ _ hP hD hS hl => k_X6_begin l D cI cC cB cS a_t a_t_land a_t_places a_t_shares a_t_did a_p1 a_p1_kinds a_p1_hours a_p1_lands a_p1_owners a_p1_treeWalls a_p1_treePlaces t_days t_sickBits t_places t_shares p1_families p1_walls p1_trees p1_lands t_land p1_hours p1_owners hp X hret hP hD hS hl)
-- takeOver(LLeaningWalls$Stand;)V
abbrev rmX6_takeOver : Room := { frames := 1, cells := 0, slots := 0, locals := 18 }
abbrev wX6_takeOver (cI cC cB cS : ClassId) (a_p1 a_p1_land a_p1_places a_p1_shares a_p1_did a_t a_t_land a_t_places a_t_shares a_t_did : Nat) (p1_days : Int32) (p1_sickBits : Int32) (t_days : Int32) (t_sickBits : Int32) (t_land : Nat → Int32) (p1_land : Nat → Int32) (t_places : Nat → Int32) (p1_places : Nat → Int32) (t_shares : Nat → Int32) (p1_shares : Nat → Int32) : va_W := [(a_p1, .inr (6, [.int p1_days, .int p1_sickBits, .ref a_p1_land, .ref a_p1_places, .ref a_p1_shares, .ref a_p1_did])), (a_t, .inr (6, [.int t_days, .int t_sickBits, .ref a_t_land, .ref a_t_places, .ref a_t_shares, .ref a_t_did])), (a_t_land, .inl (cI, 6, .inl t_land)), (a_p1_land, .inl (cI, 6, .inl p1_land)), (a_t_places, .inl (cI, 9, .inl t_places)), (a_p1_places, .inl (cI, 9, .inl p1_places)), (a_t_shares, .inl (cI, 18, .inl t_shares)), (a_p1_shares, .inl (cI, 18, .inl p1_shares))]
theorem hNm_X6_takeOver : hNm yX6_takeOver 1 := by decide +kernel
theorem m_X6_takeOver_f24 : Cond.fieldLink RX6 24 "LeaningWalls$Stand" "days" "I" ∈ wsX6_takeOver := by decide +kernel
theorem in_X6_takeOver_X6 : ∀ w ∈ wsX60, w ∈ wsX6_takeOver := by decide +kernel
theorem m_X6_takeOver_f28 : Cond.fieldLink RX6 28 "LeaningWalls$Stand" "sickBits" "I" ∈ wsX6_takeOver := by decide +kernel
theorem m_X6_takeOver_f9 : Cond.fieldLink RX6 9 "LeaningWalls$Stand" "land" "[I" ∈ wsX6_takeOver := by decide +kernel
theorem m_X6_takeOver_l46 : Cond.methodLink RX6 46 arraycopyName ∈ wsX6_takeOver := by decide +kernel
theorem m_X6_takeOver_nat : Cond.native arraycopyName ∈ wsX6_takeOver := by decide +kernel
theorem m_X6_takeOver_sta : Cond.static arraycopyName ∈ wsX6_takeOver := by decide +kernel
theorem m_X6_takeOver_ini : Cond.initialized "java/lang/System" ∈ wsX6_takeOver := by decide +kernel
theorem m_X6_takeOver_f15 : Cond.fieldLink RX6 15 "LeaningWalls$Stand" "places" "[I" ∈ wsX6_takeOver := by decide +kernel
theorem m_X6_takeOver_f18 : Cond.fieldLink RX6 18 "LeaningWalls$Stand" "shares" "[I" ∈ wsX6_takeOver := by decide +kernel
def P_X6_takeOver  (p1_days : Int32) (p1_sickBits : Int32) (t_days : Int32) (t_sickBits : Int32) (t_land : Nat → Int32) (p1_land : Nat → Int32) (t_places : Nat → Int32) (p1_places : Nat → Int32) (t_shares : Nat → Int32) (p1_shares : Nat → Int32) (post : Int32 → Int32 → (Nat → Int32) → (Nat → Int32) → (Nat → Int32) → Prop) : Prop := post p1_days p1_sickBits (va_cpy p1_land t_land 0 0 6) (va_cpy p1_places t_places 0 0 9) (va_cpy p1_shares t_shares 0 0 18)
set_option maxHeartbeats 4000000 in
set_option maxRecDepth 100000 in
theorem k_X6_takeOver (l : Launch) (D : va_G) (cI cC cB cS : ClassId) (a_p1 a_p1_land a_p1_places a_p1_shares a_p1_did a_t a_t_land a_t_places a_t_shares a_t_did : Nat) (p1_days : Int32) (p1_sickBits : Int32) (t_days : Int32) (t_sickBits : Int32) (t_land : Nat → Int32) (p1_land : Nat → Int32) (t_places : Nat → Int32) (p1_places : Nat → Int32) (t_shares : Nat → Int32) (p1_shares : Nat → Int32)  {post : Int32 → Int32 → (Nat → Int32) → (Nat → Int32) → (Nat → Int32) → Prop} (hp : P_X6_takeOver  p1_days p1_sickBits t_days t_sickBits t_land p1_land t_places p1_places t_shares p1_shares post) {p : Program} {e : Env} {s : State} {m : MethodId} {args : Array Value} {below : List Frame} {meth : Method} {c : Code} {Q : State → Prop} {A : Nat → Prop} {H0 : Heap} (X : WCtx p s m args c cX6_takeOver 2 wsX6_takeOver RX6 H0 A D (tyL cI cC cB cS)) (hret : ∀ {pc : Nat} {ls : Array Slot} {H : Heap} {locs : List Loc} (u : Int32 × Int32 × (Nat → Int32) × (Nat → Int32) × (Nat → Int32)), decode cX6_takeOver pc = .ok (.return_, 1) → post u.1 u.2.1 u.2.2.1 u.2.2.2.1 u.2.2.2.2 → va_P D vwCl (wX6_takeOver cI cC cB cS a_p1 a_p1_land a_p1_places a_p1_shares a_p1_did a_t a_t_land a_t_places a_t_shares a_t_did p1_days p1_sickBits u.1 u.2.1 u.2.2.1 p1_land u.2.2.2.1 p1_places u.2.2.2.2 p1_shares) H → va_D A (wX6_takeOver cI cC cB cS a_p1 a_p1_land a_p1_places a_p1_shares a_p1_did a_t a_t_land a_t_places a_t_shares a_t_did p1_days p1_sickBits u.1 u.2.1 u.2.2.1 p1_land u.2.2.2.1 p1_places u.2.2.2.2 p1_shares) → va_S A H0 H locs → W p l e rmX6_takeOver s m args below meth c H locs 0 0 Q (F0 m pc ls [])) {H : Heap} {locs : List Loc} {ls : Array Slot} (hP : va_P D vwCl (wX6_takeOver cI cC cB cS a_p1 a_p1_land a_p1_places a_p1_shares a_p1_did a_t a_t_land a_t_places a_t_shares a_t_did p1_days p1_sickBits t_days t_sickBits t_land p1_land t_places p1_places t_shares p1_shares) H) (hD : va_D A (wX6_takeOver cI cC cB cS a_p1 a_p1_land a_p1_places a_p1_shares a_p1_did a_t a_t_land a_t_places a_t_shares a_t_did p1_days p1_sickBits t_days t_sickBits t_land p1_land t_places p1_places t_shares p1_shares)) (hS : va_S A H0 H locs) (hl : lv_has ls 2 [(0, .ref a_t), (1, .ref a_p1)]) : W p l e rmX6_takeOver s m args below meth c H locs 0 0 Q (F0 m 0 ls []) := by
  obtain ⟨⟨hx, hb, hml, hown, hts⟩, hA, hK, hN⟩ := id X
  unfold P_X6_takeOver at hp
  refine lv_aload_n hx hb dX6_takeOver_0 rfl (lv_at hl 0 rfl) ?_
  refine lv_aload_n hx hb dX6_takeOver_1 rfl (lv_at hl 1 rfl) ?_
  refine va_get (D := D) (ci := 6) (v := .int p1_days) (C := RX6) (T := TX6) (N := 6) hx hb hts in_X6_takeOver_X6 hown hK hP 0 rfl rfl 0 (by decide) (hts _ m_X6_takeOver_f24) (fun _ h9 => h9) rfl dX6_takeOver_2 ?_
  refine va_put (D := D) (ci := 6) (v := .int p1_days) (ty := .int) (C := RX6) (T := TX6) (N := 6) hx hb hts in_X6_takeOver_X6 tyX6 tyX6_ok nmX6 hown hK hP hD hS 1 rfl rfl 0 (by decide) (hts _ m_X6_takeOver_f24) (fun _ h9 => h9) rfl (by decide +kernel) rfl rfl (Nat.le_of_ble_eq_true rfl) dX6_takeOver_5 (fun H locs hP hD hS => ?_)
  have hP : va_P D vwCl (wX6_takeOver cI cC cB cS a_p1 a_p1_land a_p1_places a_p1_shares a_p1_did a_t a_t_land a_t_places a_t_shares a_t_did p1_days p1_sickBits p1_days t_sickBits t_land p1_land t_places p1_places t_shares p1_shares) H := hP
  have hD : va_D A (wX6_takeOver cI cC cB cS a_p1 a_p1_land a_p1_places a_p1_shares a_p1_did a_t a_t_land a_t_places a_t_shares a_t_did p1_days p1_sickBits p1_days t_sickBits t_land p1_land t_places p1_places t_shares p1_shares) := hD
  refine lv_aload_n hx hb dX6_takeOver_8 rfl (lv_at hl 0 rfl) ?_
  refine lv_aload_n hx hb dX6_takeOver_9 rfl (lv_at hl 1 rfl) ?_
  refine va_get (D := D) (ci := 6) (v := .int p1_sickBits) (C := RX6) (T := TX6) (N := 6) hx hb hts in_X6_takeOver_X6 hown hK hP 0 rfl rfl 1 (by decide) (hts _ m_X6_takeOver_f28) (fun _ h9 => h9) rfl dX6_takeOver_10 ?_
  refine va_put (D := D) (ci := 6) (v := .int p1_sickBits) (ty := .int) (C := RX6) (T := TX6) (N := 6) hx hb hts in_X6_takeOver_X6 tyX6 tyX6_ok nmX6 hown hK hP hD hS 1 rfl rfl 1 (by decide) (hts _ m_X6_takeOver_f28) (fun _ h9 => h9) rfl (by decide +kernel) rfl rfl (Nat.le_of_ble_eq_true rfl) dX6_takeOver_13 (fun H locs hP hD hS => ?_)
  have hP : va_P D vwCl (wX6_takeOver cI cC cB cS a_p1 a_p1_land a_p1_places a_p1_shares a_p1_did a_t a_t_land a_t_places a_t_shares a_t_did p1_days p1_sickBits p1_days p1_sickBits t_land p1_land t_places p1_places t_shares p1_shares) H := hP
  have hD : va_D A (wX6_takeOver cI cC cB cS a_p1 a_p1_land a_p1_places a_p1_shares a_p1_did a_t a_t_land a_t_places a_t_shares a_t_did p1_days p1_sickBits p1_days p1_sickBits t_land p1_land t_places p1_places t_shares p1_shares) := hD
  refine lv_aload_n hx hb dX6_takeOver_16 rfl (lv_at hl 1 rfl) ?_
  refine va_get (D := D) (ci := 6) (v := .ref a_p1_land) (C := RX6) (T := TX6) (N := 6) hx hb hts in_X6_takeOver_X6 hown hK hP 0 rfl rfl 2 (by decide) (hts _ m_X6_takeOver_f9) (fun _ h9 => h9) rfl dX6_takeOver_17 ?_
  refine lv_iconst (v := 0) hx hb dX6_takeOver_20 (by decide) ?_
  refine lv_aload_n hx hb dX6_takeOver_21 rfl (lv_at hl 0 rfl) ?_
  refine va_get (D := D) (ci := 6) (v := .ref a_t_land) (C := RX6) (T := TX6) (N := 6) hx hb hts in_X6_takeOver_X6 hown hK hP 1 rfl rfl 2 (by decide) (hts _ m_X6_takeOver_f9) (fun _ h9 => h9) rfl dX6_takeOver_22 ?_
  refine lv_iconst (v := 0) hx hb dX6_takeOver_25 (by decide) ?_
  refine lv_aload_n hx hb dX6_takeOver_26 rfl (lv_at hl 0 rfl) ?_
  refine va_get (D := D) (ci := 6) (v := .ref a_t_land) (C := RX6) (T := TX6) (N := 6) hx hb hts in_X6_takeOver_X6 hown hK hP 1 rfl rfl 2 (by decide) (hts _ m_X6_takeOver_f9) (fun _ h9 => h9) rfl dX6_takeOver_27 ?_
  refine va_alen (D := D) (v := 6) hx hb hK hP 2 0 rfl rfl rfl dX6_takeOver_30 ?_
  refine hcopy (D := D) X hP hD hS hl.1 3 2 0 rfl rfl rfl rfl m_X6_takeOver_l46 m_X6_takeOver_nat m_X6_takeOver_sta m_X6_takeOver_ini (n := 6) (k := 6) (by decide) rfl (by decide) (by decide) (fun _ _ => rfl) (Nat.le_of_ble_eq_true rfl) (Nat.le_of_ble_eq_true rfl) dX6_takeOver_31 (fun H locs hP hD hS => ?_)
  have hP : va_P D vwCl (wX6_takeOver cI cC cB cS a_p1 a_p1_land a_p1_places a_p1_shares a_p1_did a_t a_t_land a_t_places a_t_shares a_t_did p1_days p1_sickBits p1_days p1_sickBits (va_cpy p1_land t_land 0 0 6) p1_land t_places p1_places t_shares p1_shares) H := hP
  have hD : va_D A (wX6_takeOver cI cC cB cS a_p1 a_p1_land a_p1_places a_p1_shares a_p1_did a_t a_t_land a_t_places a_t_shares a_t_did p1_days p1_sickBits p1_days p1_sickBits (va_cpy p1_land t_land 0 0 6) p1_land t_places p1_places t_shares p1_shares) := hD
  refine lv_aload_n hx hb dX6_takeOver_34 rfl (lv_at hl 1 rfl) ?_
  refine va_get (D := D) (ci := 6) (v := .ref a_p1_places) (C := RX6) (T := TX6) (N := 6) hx hb hts in_X6_takeOver_X6 hown hK hP 0 rfl rfl 3 (by decide) (hts _ m_X6_takeOver_f15) (fun _ h9 => h9) rfl dX6_takeOver_35 ?_
  refine lv_iconst (v := 0) hx hb dX6_takeOver_38 (by decide) ?_
  refine lv_aload_n hx hb dX6_takeOver_39 rfl (lv_at hl 0 rfl) ?_
  refine va_get (D := D) (ci := 6) (v := .ref a_t_places) (C := RX6) (T := TX6) (N := 6) hx hb hts in_X6_takeOver_X6 hown hK hP 1 rfl rfl 3 (by decide) (hts _ m_X6_takeOver_f15) (fun _ h9 => h9) rfl dX6_takeOver_40 ?_
  refine lv_iconst (v := 0) hx hb dX6_takeOver_43 (by decide) ?_
  refine lv_aload_n hx hb dX6_takeOver_44 rfl (lv_at hl 0 rfl) ?_
  refine va_get (D := D) (ci := 6) (v := .ref a_t_places) (C := RX6) (T := TX6) (N := 6) hx hb hts in_X6_takeOver_X6 hown hK hP 1 rfl rfl 3 (by decide) (hts _ m_X6_takeOver_f15) (fun _ h9 => h9) rfl dX6_takeOver_45 ?_
  refine va_alen (D := D) (v := 9) hx hb hK hP 4 0 rfl rfl rfl dX6_takeOver_48 ?_
  refine hcopy (D := D) X hP hD hS hl.1 5 4 0 rfl rfl rfl rfl m_X6_takeOver_l46 m_X6_takeOver_nat m_X6_takeOver_sta m_X6_takeOver_ini (n := 9) (k := 9) (by decide) rfl (by decide) (by decide) (fun _ _ => rfl) (Nat.le_of_ble_eq_true rfl) (Nat.le_of_ble_eq_true rfl) dX6_takeOver_49 (fun H locs hP hD hS => ?_)
  have hP : va_P D vwCl (wX6_takeOver cI cC cB cS a_p1 a_p1_land a_p1_places a_p1_shares a_p1_did a_t a_t_land a_t_places a_t_shares a_t_did p1_days p1_sickBits p1_days p1_sickBits (va_cpy p1_land t_land 0 0 6) p1_land (va_cpy p1_places t_places 0 0 9) p1_places t_shares p1_shares) H := hP
  have hD : va_D A (wX6_takeOver cI cC cB cS a_p1 a_p1_land a_p1_places a_p1_shares a_p1_did a_t a_t_land a_t_places a_t_shares a_t_did p1_days p1_sickBits p1_days p1_sickBits (va_cpy p1_land t_land 0 0 6) p1_land (va_cpy p1_places t_places 0 0 9) p1_places t_shares p1_shares) := hD
  refine lv_aload_n hx hb dX6_takeOver_52 rfl (lv_at hl 1 rfl) ?_
  refine va_get (D := D) (ci := 6) (v := .ref a_p1_shares) (C := RX6) (T := TX6) (N := 6) hx hb hts in_X6_takeOver_X6 hown hK hP 0 rfl rfl 4 (by decide) (hts _ m_X6_takeOver_f18) (fun _ h9 => h9) rfl dX6_takeOver_53 ?_
  refine lv_iconst (v := 0) hx hb dX6_takeOver_56 (by decide) ?_
  refine lv_aload_n hx hb dX6_takeOver_57 rfl (lv_at hl 0 rfl) ?_
  refine va_get (D := D) (ci := 6) (v := .ref a_t_shares) (C := RX6) (T := TX6) (N := 6) hx hb hts in_X6_takeOver_X6 hown hK hP 1 rfl rfl 4 (by decide) (hts _ m_X6_takeOver_f18) (fun _ h9 => h9) rfl dX6_takeOver_58 ?_
  refine lv_iconst (v := 0) hx hb dX6_takeOver_61 (by decide) ?_
  refine lv_aload_n hx hb dX6_takeOver_62 rfl (lv_at hl 0 rfl) ?_
  refine va_get (D := D) (ci := 6) (v := .ref a_t_shares) (C := RX6) (T := TX6) (N := 6) hx hb hts in_X6_takeOver_X6 hown hK hP 1 rfl rfl 4 (by decide) (hts _ m_X6_takeOver_f18) (fun _ h9 => h9) rfl dX6_takeOver_63 ?_
  refine va_alen (D := D) (v := 18) hx hb hK hP 6 0 rfl rfl rfl dX6_takeOver_66 ?_
  refine hcopy (D := D) X hP hD hS hl.1 7 6 0 rfl rfl rfl rfl m_X6_takeOver_l46 m_X6_takeOver_nat m_X6_takeOver_sta m_X6_takeOver_ini (n := 18) (k := 18) (by decide) rfl (by decide) (by decide) (fun _ _ => rfl) (Nat.le_of_ble_eq_true rfl) (Nat.le_of_ble_eq_true rfl) dX6_takeOver_67 (fun H locs hP hD hS => ?_)
  have hP : va_P D vwCl (wX6_takeOver cI cC cB cS a_p1 a_p1_land a_p1_places a_p1_shares a_p1_did a_t a_t_land a_t_places a_t_shares a_t_did p1_days p1_sickBits p1_days p1_sickBits (va_cpy p1_land t_land 0 0 6) p1_land (va_cpy p1_places t_places 0 0 9) p1_places (va_cpy p1_shares t_shares 0 0 18) p1_shares) H := hP
  have hD : va_D A (wX6_takeOver cI cC cB cS a_p1 a_p1_land a_p1_places a_p1_shares a_p1_did a_t a_t_land a_t_places a_t_shares a_t_did p1_days p1_sickBits p1_days p1_sickBits (va_cpy p1_land t_land 0 0 6) p1_land (va_cpy p1_places t_places 0 0 9) p1_places (va_cpy p1_shares t_shares 0 0 18) p1_shares) := hD
  exact hret (p1_days, p1_sickBits, (va_cpy p1_land t_land 0 0 6), (va_cpy p1_places t_places 0 0 9), (va_cpy p1_shares t_shares 0 0 18)) dX6_takeOver_70 hp hP hD hS
theorem c_X6_takeOver (l : Launch) (D : va_G) (cI cC cB cS : ClassId) (a_p1 a_p1_land a_p1_places a_p1_shares a_p1_did a_t a_t_land a_t_places a_t_shares a_t_did : Nat) (p1_days : Int32) (p1_sickBits : Int32) (t_days : Int32) (t_sickBits : Int32) (t_land : Nat → Int32) (p1_land : Nat → Int32) (t_places : Nat → Int32) (p1_places : Nat → Int32) (t_shares : Nat → Int32) (p1_shares : Nat → Int32)  {post : Int32 → Int32 → (Nat → Int32) → (Nat → Int32) → (Nat → Int32) → Prop} (hp : P_X6_takeOver  p1_days p1_sickBits t_days t_sickBits t_land p1_land t_places p1_places t_shares p1_shares post) : CtrV l yX6_takeOver wsX6_takeOver rmX6_takeOver D (tyL cI cC cB cS) [.ref a_t, .ref a_p1] (wX6_takeOver cI cC cB cS a_p1 a_p1_land a_p1_places a_p1_shares a_p1_did a_t a_t_land a_t_places a_t_shares a_t_did p1_days p1_sickBits t_days t_sickBits t_land p1_land t_places p1_places t_shares p1_shares) (fun (u : Int32 × Int32 × (Nat → Int32) × (Nat → Int32) × (Nat → Int32)) => post u.1 u.2.1 u.2.2.1 u.2.2.2.1 u.2.2.2.2) (fun u => (wX6_takeOver cI cC cB cS a_p1 a_p1_land a_p1_places a_p1_shares a_p1_did a_t a_t_land a_t_places a_t_shares a_t_did p1_days p1_sickBits u.1 u.2.1 u.2.2.1 p1_land u.2.2.2.1 p1_places u.2.2.2.2 p1_shares)) 0 0 :=
  ctrV_of (cc := cX6_takeOver) (maxL := 2) (by decide) rfl (Nat.le_of_ble_eq_true rfl) (fun X hret _ _ _ hP hD hS hl => k_X6_takeOver l D cI cC cB cS a_p1 a_p1_land a_p1_places a_p1_shares a_p1_did a_t a_t_land a_t_places a_t_shares a_t_did p1_days p1_sickBits t_days t_sickBits t_land p1_land t_places p1_places t_shares p1_shares hp X hret hP hD hS hl)
-- isSick(I)Z
abbrev rmX6_isSick : Room := { frames := 0, cells := 0, slots := 0, locals := 0 }
abbrev wX6_isSick (cI cC cB cS : ClassId) (a_t a_t_land a_t_places a_t_shares a_t_did : Nat) (t_days : Int32) (t_sickBits : Int32) : va_W := [(a_t, .inr (6, [.int t_days, .int t_sickBits, .ref a_t_land, .ref a_t_places, .ref a_t_shares, .ref a_t_did]))]
theorem hNm_X6_isSick : hNm yX6_isSick 1 := by decide +kernel
theorem m_X6_isSick_f28 : Cond.fieldLink RX6 28 "LeaningWalls$Stand" "sickBits" "I" ∈ wsX6_isSick := by decide +kernel
theorem in_X6_isSick_X6 : ∀ w ∈ wsX60, w ∈ wsX6_isSick := by decide +kernel
def P_X6_isSick (x1 : Int32) (t_sickBits : Int32) (post : Int32 → Prop) : Prop := (¬ ((t_sickBits >>> (x1 &&& 31)) &&& (1 : Int32)) = (1 : Int32) → post (0 : Int32)) ∧ (((t_sickBits >>> (x1 &&& 31)) &&& (1 : Int32)) = (1 : Int32) → post (1 : Int32))
set_option maxHeartbeats 4000000 in
set_option maxRecDepth 100000 in
theorem k_X6_isSick (l : Launch) (D : va_G) (cI cC cB cS : ClassId) (a_t a_t_land a_t_places a_t_shares a_t_did : Nat) (t_days : Int32) (t_sickBits : Int32) (x1 : Int32) {post : Int32 → Prop} (hp : P_X6_isSick x1 t_sickBits post) {p : Program} {e : Env} {s : State} {m : MethodId} {args : Array Value} {below : List Frame} {meth : Method} {c : Code} {Q : State → Prop} {A : Nat → Prop} {H0 : Heap} (X : WCtx p s m args c cX6_isSick 2 wsX6_isSick RX6 H0 A D (tyL cI cC cB cS)) (hret : ∀ {pc : Nat} {ls : Array Slot} {H : Heap} {locs : List Loc} {r : Int32} (u : Unit), decode cX6_isSick pc = .ok (.ireturn, 1) → zb r → post r  → va_P D vwCl (wX6_isSick cI cC cB cS a_t a_t_land a_t_places a_t_shares a_t_did t_days t_sickBits) H → va_D A (wX6_isSick cI cC cB cS a_t a_t_land a_t_places a_t_shares a_t_did t_days t_sickBits) → va_S A H0 H locs → W p l e rmX6_isSick s m args below meth c H locs 0 0 Q (F0 m pc ls [.int r])) {H : Heap} {locs : List Loc} {ls : Array Slot} (hP : va_P D vwCl (wX6_isSick cI cC cB cS a_t a_t_land a_t_places a_t_shares a_t_did t_days t_sickBits) H) (hD : va_D A (wX6_isSick cI cC cB cS a_t a_t_land a_t_places a_t_shares a_t_did t_days t_sickBits)) (hS : va_S A H0 H locs) (hl : lv_has ls 2 [(0, .ref a_t), (1, .int x1)]) : W p l e rmX6_isSick s m args below meth c H locs 0 0 Q (F0 m 0 ls []) := by
  obtain ⟨⟨hx, hb, hml, hown, hts⟩, hA, hK, hN⟩ := id X
  unfold P_X6_isSick at hp
  refine lv_aload_n hx hb dX6_isSick_0 rfl (lv_at hl 0 rfl) ?_
  refine va_get (D := D) (ci := 6) (v := .int t_sickBits) (C := RX6) (T := TX6) (N := 6) hx hb hts in_X6_isSick_X6 hown hK hP 0 rfl rfl 1 (by decide) (hts _ m_X6_isSick_f28) (fun _ h9 => h9) rfl dX6_isSick_1 ?_
  refine lv_iload_n hx hb dX6_isSick_4 rfl (lv_at hl 1 rfl) ?_
  refine lv_ishr hx hb dX6_isSick_5 ?_
  refine lv_iconst (v := 1) hx hb dX6_isSick_6 (by decide) ?_
  refine lv_iand hx hb dX6_isSick_7 ?_
  refine lv_iconst (v := 1) hx hb dX6_isSick_8 (by decide) ?_
  refine lv_icmp_ne (tgt := 16) hx hb dX6_isSick_9 (by decide) (fun hc => ?_) (fun hc => ?_)
  · have hp := hp.1 hc
    refine lv_iconst (v := 0) hx hb dX6_isSick_16 (by decide) ?_
    exact hret () dX6_isSick_17 zb0 hp hP hD hS
  · have hp := hp.2 hc
    refine lv_iconst (v := 1) hx hb dX6_isSick_12 (by decide) ?_
    refine lv_goto (tgt := 17) hx hb dX6_isSick_13 (by decide) ?_
    exact hret () dX6_isSick_17 zb1 hp hP hD hS
theorem c_X6_isSick (l : Launch) (D : va_G) (cI cC cB cS : ClassId) (a_t a_t_land a_t_places a_t_shares a_t_did : Nat) (t_days : Int32) (t_sickBits : Int32) (x1 : Int32) {post : Int32 → Prop} (hp : P_X6_isSick x1 t_sickBits post) : CtrI l yX6_isSick wsX6_isSick rmX6_isSick D (tyL cI cC cB cS) [.ref a_t, .int x1] (wX6_isSick cI cC cB cS a_t a_t_land a_t_places a_t_shares a_t_did t_days t_sickBits) (fun r (u : Unit) => post r ) (fun u => (wX6_isSick cI cC cB cS a_t a_t_land a_t_places a_t_shares a_t_did t_days t_sickBits)) 0 0 :=
  ctrZ_of (cc := cX6_isSick) (maxL := 2) (by decide) rfl (Nat.le_of_ble_eq_true rfl) (fun X hret _ _ _ hP hD hS hl => k_X6_isSick l D cI cC cB cS a_t a_t_land a_t_places a_t_shares a_t_did t_days t_sickBits x1 hp X hret hP hD hS hl)
-- turnSickness(I)V
abbrev rmX6_turnSickness : Room := { frames := 0, cells := 0, slots := 0, locals := 0 }
abbrev wX6_turnSickness (cI cC cB cS : ClassId) (a_t a_t_land a_t_places a_t_shares a_t_did : Nat) (t_days : Int32) (t_sickBits : Int32) : va_W := [(a_t, .inr (6, [.int t_days, .int t_sickBits, .ref a_t_land, .ref a_t_places, .ref a_t_shares, .ref a_t_did]))]
theorem hNm_X6_turnSickness : hNm yX6_turnSickness 1 := by decide +kernel
theorem m_X6_turnSickness_f28 : Cond.fieldLink RX6 28 "LeaningWalls$Stand" "sickBits" "I" ∈ wsX6_turnSickness := by decide +kernel
theorem in_X6_turnSickness_X6 : ∀ w ∈ wsX60, w ∈ wsX6_turnSickness := by decide +kernel
def P_X6_turnSickness (x1 : Int32) (t_sickBits : Int32) (post : Int32 → Prop) : Prop := post (t_sickBits ^^^ ((1 : Int32) <<< (x1 &&& 31)))
set_option maxHeartbeats 4000000 in
set_option maxRecDepth 100000 in
theorem k_X6_turnSickness (l : Launch) (D : va_G) (cI cC cB cS : ClassId) (a_t a_t_land a_t_places a_t_shares a_t_did : Nat) (t_days : Int32) (t_sickBits : Int32) (x1 : Int32) {post : Int32 → Prop} (hp : P_X6_turnSickness x1 t_sickBits post) {p : Program} {e : Env} {s : State} {m : MethodId} {args : Array Value} {below : List Frame} {meth : Method} {c : Code} {Q : State → Prop} {A : Nat → Prop} {H0 : Heap} (X : WCtx p s m args c cX6_turnSickness 2 wsX6_turnSickness RX6 H0 A D (tyL cI cC cB cS)) (hret : ∀ {pc : Nat} {ls : Array Slot} {H : Heap} {locs : List Loc} (u : Int32), decode cX6_turnSickness pc = .ok (.return_, 1) → post u → va_P D vwCl (wX6_turnSickness cI cC cB cS a_t a_t_land a_t_places a_t_shares a_t_did t_days u) H → va_D A (wX6_turnSickness cI cC cB cS a_t a_t_land a_t_places a_t_shares a_t_did t_days u) → va_S A H0 H locs → W p l e rmX6_turnSickness s m args below meth c H locs 0 0 Q (F0 m pc ls [])) {H : Heap} {locs : List Loc} {ls : Array Slot} (hP : va_P D vwCl (wX6_turnSickness cI cC cB cS a_t a_t_land a_t_places a_t_shares a_t_did t_days t_sickBits) H) (hD : va_D A (wX6_turnSickness cI cC cB cS a_t a_t_land a_t_places a_t_shares a_t_did t_days t_sickBits)) (hS : va_S A H0 H locs) (hl : lv_has ls 2 [(0, .ref a_t), (1, .int x1)]) : W p l e rmX6_turnSickness s m args below meth c H locs 0 0 Q (F0 m 0 ls []) := by
  obtain ⟨⟨hx, hb, hml, hown, hts⟩, hA, hK, hN⟩ := id X
  unfold P_X6_turnSickness at hp
  refine lv_aload_n hx hb dX6_turnSickness_0 rfl (lv_at hl 0 rfl) ?_
  refine lv_dup hx hb dX6_turnSickness_1 rfl ?_
  refine va_get (D := D) (ci := 6) (v := .int t_sickBits) (C := RX6) (T := TX6) (N := 6) hx hb hts in_X6_turnSickness_X6 hown hK hP 0 rfl rfl 1 (by decide) (hts _ m_X6_turnSickness_f28) (fun _ h9 => h9) rfl dX6_turnSickness_2 ?_
  refine lv_iconst (v := 1) hx hb dX6_turnSickness_5 (by decide) ?_
  refine lv_iload_n hx hb dX6_turnSickness_6 rfl (lv_at hl 1 rfl) ?_
  refine lv_ishl hx hb dX6_turnSickness_7 ?_
  refine lv_ixor hx hb dX6_turnSickness_8 ?_
  refine va_put (D := D) (ci := 6) (v := .int (t_sickBits ^^^ ((1 : Int32) <<< (x1 &&& 31)))) (ty := .int) (C := RX6) (T := TX6) (N := 6) hx hb hts in_X6_turnSickness_X6 tyX6 tyX6_ok nmX6 hown hK hP hD hS 0 rfl rfl 1 (by decide) (hts _ m_X6_turnSickness_f28) (fun _ h9 => h9) rfl (by decide +kernel) rfl rfl (Nat.le_of_ble_eq_true rfl) dX6_turnSickness_9 (fun H locs hP hD hS => ?_)
  have hP : va_P D vwCl (wX6_turnSickness cI cC cB cS a_t a_t_land a_t_places a_t_shares a_t_did t_days (t_sickBits ^^^ ((1 : Int32) <<< (x1 &&& 31)))) H := hP
  have hD : va_D A (wX6_turnSickness cI cC cB cS a_t a_t_land a_t_places a_t_shares a_t_did t_days (t_sickBits ^^^ ((1 : Int32) <<< (x1 &&& 31)))) := hD
  exact hret (t_sickBits ^^^ ((1 : Int32) <<< (x1 &&& 31))) dX6_turnSickness_12 hp hP hD hS
theorem c_X6_turnSickness (l : Launch) (D : va_G) (cI cC cB cS : ClassId) (a_t a_t_land a_t_places a_t_shares a_t_did : Nat) (t_days : Int32) (t_sickBits : Int32) (x1 : Int32) {post : Int32 → Prop} (hp : P_X6_turnSickness x1 t_sickBits post) : CtrV l yX6_turnSickness wsX6_turnSickness rmX6_turnSickness D (tyL cI cC cB cS) [.ref a_t, .int x1] (wX6_turnSickness cI cC cB cS a_t a_t_land a_t_places a_t_shares a_t_did t_days t_sickBits) (fun (u : Int32) => post u) (fun u => (wX6_turnSickness cI cC cB cS a_t a_t_land a_t_places a_t_shares a_t_did t_days u)) 0 0 :=
  ctrV_of (cc := cX6_turnSickness) (maxL := 2) (by decide) rfl (Nat.le_of_ble_eq_true rfl) (fun X hret _ _ _ hP hD hS hl => k_X6_turnSickness l D cI cC cB cS a_t a_t_land a_t_places a_t_shares a_t_did t_days t_sickBits x1 hp X hret hP hD hS hl)
-- shareBy(LLeaningWalls$County;I[I)V
abbrev rmX6_shareBy : Room := { frames := 1, cells := 0, slots := 0, locals := 20 }
abbrev wX6_shareBy (cI cC cB cS : ClassId) (a_p1 a_p1_kinds a_p1_hours a_p1_lands a_p1_owners a_p1_treeWalls a_p1_treePlaces a_p3 a_t a_t_land a_t_places a_t_shares a_t_did : Nat) (p1_families : Int32) (p1_walls : Int32) (p1_trees : Int32) (p1_owners : Nat → Int32) (p3 : Nat → Int32) (t_days : Int32) (t_sickBits : Int32) (t_shares : Nat → Int32) : va_W := [(a_p1, .inr (1, [.int p1_families, .int p1_walls, .int p1_trees, .ref a_p1_kinds, .ref a_p1_hours, .ref a_p1_lands, .ref a_p1_owners, .ref a_p1_treeWalls, .ref a_p1_treePlaces])), (a_p1_owners, .inl (cI, 18, .inl p1_owners)), (a_p3, .inl (cI, 4, .inl p3)), (a_t, .inr (6, [.int t_days, .int t_sickBits, .ref a_t_land, .ref a_t_places, .ref a_t_shares, .ref a_t_did])), (a_t_shares, .inl (cI, 18, .inl t_shares))]
theorem hNm_X6_shareBy : hNm yX6_shareBy 3 := by decide +kernel
theorem m_X6_shareBy_f60 : Cond.fieldLink RX6 60 "LeaningWalls$County" "owners" "[I" ∈ wsX6_shareBy := by decide +kernel
theorem in_X6_shareBy_X1 : ∀ w ∈ wsX10, w ∈ wsX6_shareBy := by decide +kernel
theorem m_X6_shareBy_f18 : Cond.fieldLink RX6 18 "LeaningWalls$Stand" "shares" "[I" ∈ wsX6_shareBy := by decide +kernel
theorem in_X6_shareBy_X6 : ∀ w ∈ wsX60, w ∈ wsX6_shareBy := by decide +kernel
def P_X6_shareBy_b47 (p1_walls : Int32) (p1_owners : Nat → Int32) (p3 : Nat → Int32) (k6 : Int32 → Int32 → Int32 → (Nat → Int32) → Prop) (post : (Nat → Int32) → Prop) (x2 : Int32) (x4 : Int32) (x5 : Int32) (t_shares : Nat → Int32) : Prop := k6 x2 x4 (x5 + (1 : Int32)) t_shares
def P_X6_shareBy_L6 (p1_walls : Int32) (p1_owners : Nat → Int32) (p3 : Nat → Int32)  (post : (Nat → Int32) → Prop) : Nat → Int32 → Int32 → Int32 → (Nat → Int32) → Prop
  | 0, _, _, _, _ => False
  | n6 + 1, x2, x4, x5, t_shares => P_X1_sides p1_walls (fun r9 => (r9 ≤ x5 → post t_shares) ∧ (¬ r9 ≤ x5 → vp_in x5 18 ∧ ((¬ (p1_owners x5.toNatClampNeg) = x2 → P_X6_shareBy_b47 p1_walls p1_owners p3 (P_X6_shareBy_L6 p1_walls p1_owners p3 post n6) post x2 x4 x5 t_shares) ∧ ((p1_owners x5.toNatClampNeg) = x2 → ((4 : Int32) ≤ x4 → P_X6_shareBy_b47 p1_walls p1_owners p3 (P_X6_shareBy_L6 p1_walls p1_owners p3 post n6) post x2 x4 x5 t_shares) ∧ (¬ (4 : Int32) ≤ x4 → vp_in x4 4 ∧ (vp_in x5 18 ∧ (P_X6_shareBy_b47 p1_walls p1_owners p3 (P_X6_shareBy_L6 p1_walls p1_owners p3 post n6) post x2 (x4 + (1 : Int32)) x5 (upd t_shares x5.toNatClampNeg (p3 x4.toNatClampNeg)))))))))
def P_X6_shareBy (x2 : Int32) (p1_walls : Int32) (p1_owners : Nat → Int32) (p3 : Nat → Int32) (t_shares : Nat → Int32) (post : (Nat → Int32) → Prop) : Prop := ∃ n6 : Nat, P_X6_shareBy_L6 p1_walls p1_owners p3 post n6 x2 (0 : Int32) (0 : Int32) t_shares
set_option maxHeartbeats 4000000 in
set_option maxRecDepth 100000 in
theorem k_X6_shareBy (l : Launch) (D : va_G) (cI cC cB cS : ClassId) (a_p1 a_p1_kinds a_p1_hours a_p1_lands a_p1_owners a_p1_treeWalls a_p1_treePlaces a_p3 a_t a_t_land a_t_places a_t_shares a_t_did : Nat) (p1_families : Int32) (p1_walls : Int32) (p1_trees : Int32) (p1_owners : Nat → Int32) (p3 : Nat → Int32) (t_days : Int32) (t_sickBits : Int32) (t_shares : Nat → Int32) (x2 : Int32) {post : (Nat → Int32) → Prop} (hp : P_X6_shareBy x2 p1_walls p1_owners p3 t_shares post) {p : Program} {e : Env} {s : State} {m : MethodId} {args : Array Value} {below : List Frame} {meth : Method} {c : Code} {Q : State → Prop} {A : Nat → Prop} {H0 : Heap} (X : WCtx p s m args c cX6_shareBy 6 wsX6_shareBy RX6 H0 A D (tyL cI cC cB cS)) (hret : ∀ {pc : Nat} {ls : Array Slot} {H : Heap} {locs : List Loc} (u : (Nat → Int32)), decode cX6_shareBy pc = .ok (.return_, 1) → post u → va_P D vwCl (wX6_shareBy cI cC cB cS a_p1 a_p1_kinds a_p1_hours a_p1_lands a_p1_owners a_p1_treeWalls a_p1_treePlaces a_p3 a_t a_t_land a_t_places a_t_shares a_t_did p1_families p1_walls p1_trees p1_owners p3 t_days t_sickBits u) H → va_D A (wX6_shareBy cI cC cB cS a_p1 a_p1_kinds a_p1_hours a_p1_lands a_p1_owners a_p1_treeWalls a_p1_treePlaces a_p3 a_t a_t_land a_t_places a_t_shares a_t_did p1_families p1_walls p1_trees p1_owners p3 t_days t_sickBits u) → va_S A H0 H locs → W p l e rmX6_shareBy s m args below meth c H locs 0 0 Q (F0 m pc ls [])) {H : Heap} {locs : List Loc} {ls : Array Slot} (hP : va_P D vwCl (wX6_shareBy cI cC cB cS a_p1 a_p1_kinds a_p1_hours a_p1_lands a_p1_owners a_p1_treeWalls a_p1_treePlaces a_p3 a_t a_t_land a_t_places a_t_shares a_t_did p1_families p1_walls p1_trees p1_owners p3 t_days t_sickBits t_shares) H) (hD : va_D A (wX6_shareBy cI cC cB cS a_p1 a_p1_kinds a_p1_hours a_p1_lands a_p1_owners a_p1_treeWalls a_p1_treePlaces a_p3 a_t a_t_land a_t_places a_t_shares a_t_did p1_families p1_walls p1_trees p1_owners p3 t_days t_sickBits t_shares)) (hS : va_S A H0 H locs) (hl : lv_has ls 6 [(0, .ref a_t), (1, .ref a_p1), (2, .int x2), (3, .ref a_p3)]) : W p l e rmX6_shareBy s m args below meth c H locs 0 0 Q (F0 m 0 ls []) := by
  obtain ⟨⟨hx, hb, hml, hown, hts⟩, hA, hK, hN⟩ := id X
  have L6 : ∀ (n6 : Nat) (x2 : Int32) (x4 : Int32) (x5 : Int32) (t_shares : Nat → Int32)  (H : Heap) (locs : List Loc), va_P D vwCl (wX6_shareBy cI cC cB cS a_p1 a_p1_kinds a_p1_hours a_p1_lands a_p1_owners a_p1_treeWalls a_p1_treePlaces a_p3 a_t a_t_land a_t_places a_t_shares a_t_did p1_families p1_walls p1_trees p1_owners p3 t_days t_sickBits t_shares) H → va_D A (wX6_shareBy cI cC cB cS a_p1 a_p1_kinds a_p1_hours a_p1_lands a_p1_owners a_p1_treeWalls a_p1_treePlaces a_p3 a_t a_t_land a_t_places a_t_shares a_t_did p1_families p1_walls p1_trees p1_owners p3 t_days t_sickBits t_shares) → va_S A H0 H locs → P_X6_shareBy_L6 p1_walls p1_owners p3 post n6 x2 x4 x5 t_shares → ∀ ls : Array Slot, lv_has ls 6 [(0, .ref a_t), (1, .ref a_p1), (2, .int x2), (3, .ref a_p3), (4, .int x4), (5, .int x5)] → W p l e rmX6_shareBy s m args below meth c H locs 0 0 Q (F0 m 6 ls []) := by
    intro n6
    induction n6 with
    | zero => intro x2 x4 x5 t_shares H locs hP hD hS hp; exact False.elim hp
    | succ n6 ih6 =>
      have J47 : ∀ (x2 : Int32) (x4 : Int32) (x5 : Int32) (t_shares : Nat → Int32)  (H : Heap) (locs : List Loc), va_P D vwCl (wX6_shareBy cI cC cB cS a_p1 a_p1_kinds a_p1_hours a_p1_lands a_p1_owners a_p1_treeWalls a_p1_treePlaces a_p3 a_t a_t_land a_t_places a_t_shares a_t_did p1_families p1_walls p1_trees p1_owners p3 t_days t_sickBits t_shares) H → va_D A (wX6_shareBy cI cC cB cS a_p1 a_p1_kinds a_p1_hours a_p1_lands a_p1_owners a_p1_treeWalls a_p1_treePlaces a_p3 a_t a_t_land a_t_places a_t_shares a_t_did p1_families p1_walls p1_trees p1_owners p3 t_days t_sickBits t_shares) → va_S A H0 H locs → P_X6_shareBy_b47 p1_walls p1_owners p3 (P_X6_shareBy_L6 p1_walls p1_owners p3 post n6) post x2 x4 x5 t_shares → ∀ ls : Array Slot, lv_has ls 6 [(0, .ref a_t), (1, .ref a_p1), (2, .int x2), (3, .ref a_p3), (4, .int x4), (5, .int x5)] → W p l e rmX6_shareBy s m args below meth c H locs 0 0 Q (F0 m 47 ls []) := by
        intro x2 x4 x5 t_shares H locs hP hD hS hp ls hl
        unfold P_X6_shareBy_b47 at hp
        refine lv_iinc (v := x5 + (1 : Int32)) (lv' := [(5, .int (x5 + (1 : Int32))), (0, .ref a_t), (1, .ref a_p1), (2, .int x2), (3, .ref a_p3), (4, .int x4)]) hx hb dX6_shareBy_47 hl (k := 5) rfl rfl (by decide) rfl (fun ls hl => ?_)
        refine lv_goto (tgt := 6) hx hb dX6_shareBy_50 (by decide) ?_
        exact ih6 x2 x4 (x5 + (1 : Int32)) t_shares _ _ hP hD hS hp _ (lv_sub hl [1, 2, 3, 4, 5, 0] rfl)
      intro x2 x4 x5 t_shares H locs hP hD hS hp ls hl
      rw [P_X6_shareBy_L6] at hp
      refine lv_iload hx hb dX6_shareBy_6 (lv_at hl 5 rfl) ?_
      refine lv_aload_n hx hb dX6_shareBy_8 rfl (lv_at hl 1 rfl) ?_
      refine hcV_i (As := []) (rest := [.int x5]) (fun u => (wX6_shareBy cI cC cB cS a_p1 a_p1_kinds a_p1_hours a_p1_lands a_p1_owners a_p1_treeWalls a_p1_treePlaces a_p3 a_t a_t_land a_t_places a_t_shares a_t_did p1_families p1_walls p1_trees p1_owners p3 t_days t_sickBits t_shares)) X hP hD hS hl.1 [0] [1, 2, 3, 4] [4, 0, 1, 2, 3] 0 0 (@c_X1_sides l D cI cC cB cS a_p1 a_p1_kinds a_p1_hours a_p1_lands a_p1_owners a_p1_treeWalls a_p1_treePlaces p1_families p1_walls p1_trees _ hp) ⟨rfl, rfl⟩ (fun _ => rfl) (by decide +kernel) gX6_shareBy_X1_sides rfl rfl rfl rfl hNm_X1_sides ⟨Nat.le_of_ble_eq_true rfl, Nat.le_of_ble_eq_true rfl⟩ (ci := 1) rfl rfl rfl rfl (Nat.le_of_ble_eq_true rfl) dX6_shareBy_9 ⟨Nat.le_of_ble_eq_true rfl, Nat.le_of_ble_eq_true rfl⟩ (fun r9 _ H locs hp hP hD hS => ?_)
      try dsimp only at hp
      have hP : va_P D vwCl (wX6_shareBy cI cC cB cS a_p1 a_p1_kinds a_p1_hours a_p1_lands a_p1_owners a_p1_treeWalls a_p1_treePlaces a_p3 a_t a_t_land a_t_places a_t_shares a_t_did p1_families p1_walls p1_trees p1_owners p3 t_days t_sickBits t_shares) H := hP
      have hD : va_D A (wX6_shareBy cI cC cB cS a_p1 a_p1_kinds a_p1_hours a_p1_lands a_p1_owners a_p1_treeWalls a_p1_treePlaces a_p3 a_t a_t_land a_t_places a_t_shares a_t_did p1_families p1_walls p1_trees p1_owners p3 t_days t_sickBits t_shares) := hD
      refine lv_icmp_ge (tgt := 53) hx hb dX6_shareBy_12 (by decide) (fun hc => ?_) (fun hc => ?_)
      · have hp := hp.1 hc
        exact hret t_shares dX6_shareBy_53 hp hP hD hS
      · have hp := hp.2 hc
        refine lv_aload_n hx hb dX6_shareBy_15 rfl (lv_at hl 1 rfl) ?_
        refine va_get (D := D) (ci := 1) (v := .ref a_p1_owners) (C := RX1) (T := TX1) (N := 9) hx hb hts in_X6_shareBy_X1 hown hK hP 0 rfl rfl 6 (by decide) (hts _ m_X6_shareBy_f60) (fun _ h9 => h9) rfl dX6_shareBy_16 ?_
        refine lv_iload hx hb dX6_shareBy_19 (lv_at hl 5 rfl) ?_
        obtain ⟨hi, hp⟩ := hp
        refine va_iald (D := D) hx hb hK hP 1 0 rfl rfl hi dX6_shareBy_21 ?_
        refine lv_iload_n hx hb dX6_shareBy_22 rfl (lv_at hl 2 rfl) ?_
        refine lv_icmp_ne (tgt := 47) hx hb dX6_shareBy_23 (by decide) (fun hc => ?_) (fun hc => ?_)
        · have hp := hp.1 hc
          exact J47 x2 x4 x5 t_shares _ _ hP hD hS hp _ (lv_sub hl [0, 1, 2, 3, 4, 5] rfl)
        · have hp := hp.2 hc
          refine lv_iload hx hb dX6_shareBy_26 (lv_at hl 4 rfl) ?_
          refine lv_aload_n hx hb dX6_shareBy_28 rfl (lv_at hl 3 rfl) ?_
          refine va_alen (D := D) (v := 4) hx hb hK hP 2 0 rfl rfl rfl dX6_shareBy_29 ?_
          refine lv_icmp_ge (tgt := 47) hx hb dX6_shareBy_30 (by decide) (fun hc => ?_) (fun hc => ?_)
          · have hp := hp.1 hc
            exact J47 x2 x4 x5 t_shares _ _ hP hD hS hp _ (lv_sub hl [0, 1, 2, 3, 4, 5] rfl)
          · have hp := hp.2 hc
            refine lv_aload_n hx hb dX6_shareBy_33 rfl (lv_at hl 0 rfl) ?_
            refine va_get (D := D) (ci := 6) (v := .ref a_t_shares) (C := RX6) (T := TX6) (N := 6) hx hb hts in_X6_shareBy_X6 hown hK hP 3 rfl rfl 4 (by decide) (hts _ m_X6_shareBy_f18) (fun _ h9 => h9) rfl dX6_shareBy_34 ?_
            refine lv_iload hx hb dX6_shareBy_37 (lv_at hl 5 rfl) ?_
            refine lv_aload_n hx hb dX6_shareBy_39 rfl (lv_at hl 3 rfl) ?_
            refine lv_iload hx hb dX6_shareBy_40 (lv_at hl 4 rfl) ?_
            obtain ⟨hi, hp⟩ := hp
            refine va_iald (D := D) hx hb hK hP 2 0 rfl rfl hi dX6_shareBy_42 ?_
            obtain ⟨hi, hp⟩ := hp
            refine va_iast (D := D) hx hb hK hP hD hS 4 0 rfl rfl hi dX6_shareBy_43 (fun H locs hP hD hS => ?_)
            have hP : va_P D vwCl (wX6_shareBy cI cC cB cS a_p1 a_p1_kinds a_p1_hours a_p1_lands a_p1_owners a_p1_treeWalls a_p1_treePlaces a_p3 a_t a_t_land a_t_places a_t_shares a_t_did p1_families p1_walls p1_trees p1_owners p3 t_days t_sickBits (upd t_shares x5.toNatClampNeg (p3 x4.toNatClampNeg))) H := hP
            have hD : va_D A (wX6_shareBy cI cC cB cS a_p1 a_p1_kinds a_p1_hours a_p1_lands a_p1_owners a_p1_treeWalls a_p1_treePlaces a_p3 a_t a_t_land a_t_places a_t_shares a_t_did p1_families p1_walls p1_trees p1_owners p3 t_days t_sickBits (upd t_shares x5.toNatClampNeg (p3 x4.toNatClampNeg))) := hD
            refine lv_iinc (v := x4 + (1 : Int32)) (lv' := [(4, .int (x4 + (1 : Int32))), (0, .ref a_t), (1, .ref a_p1), (2, .int x2), (3, .ref a_p3), (5, .int x5)]) hx hb dX6_shareBy_44 hl (k := 4) rfl rfl (by decide) rfl (fun ls hl => ?_)
            exact J47 x2 (x4 + (1 : Int32)) x5 (upd t_shares x5.toNatClampNeg (p3 x4.toNatClampNeg)) _ _ hP hD hS hp _ (lv_sub hl [1, 2, 3, 4, 0, 5] rfl)
  unfold P_X6_shareBy at hp
  refine lv_iconst (v := 0) hx hb dX6_shareBy_0 (by decide) ?_
  refine lv_istore (lv' := [(4, .int (0 : Int32)), (0, .ref a_t), (1, .ref a_p1), (2, .int x2), (3, .ref a_p3)]) hx hb dX6_shareBy_1 hl (by decide) rfl (fun ls hl => ?_)
  refine lv_iconst (v := 0) hx hb dX6_shareBy_3 (by decide) ?_
  refine lv_istore (lv' := [(5, .int (0 : Int32)), (4, .int (0 : Int32)), (0, .ref a_t), (1, .ref a_p1), (2, .int x2), (3, .ref a_p3)]) hx hb dX6_shareBy_4 hl (by decide) rfl (fun ls hl => ?_)
  obtain ⟨n6, hp⟩ := hp
  exact L6 n6 x2 (0 : Int32) (0 : Int32) t_shares _ _ hP hD hS hp _ (lv_sub hl [2, 3, 4, 5, 1, 0] rfl)
theorem c_X6_shareBy (l : Launch) (D : va_G) (cI cC cB cS : ClassId) (a_p1 a_p1_kinds a_p1_hours a_p1_lands a_p1_owners a_p1_treeWalls a_p1_treePlaces a_p3 a_t a_t_land a_t_places a_t_shares a_t_did : Nat) (p1_families : Int32) (p1_walls : Int32) (p1_trees : Int32) (p1_owners : Nat → Int32) (p3 : Nat → Int32) (t_days : Int32) (t_sickBits : Int32) (t_shares : Nat → Int32) (x2 : Int32) {post : (Nat → Int32) → Prop} (hp : P_X6_shareBy x2 p1_walls p1_owners p3 t_shares post) : CtrV l yX6_shareBy wsX6_shareBy rmX6_shareBy D (tyL cI cC cB cS) [.ref a_t, .ref a_p1, .int x2, .ref a_p3] (wX6_shareBy cI cC cB cS a_p1 a_p1_kinds a_p1_hours a_p1_lands a_p1_owners a_p1_treeWalls a_p1_treePlaces a_p3 a_t a_t_land a_t_places a_t_shares a_t_did p1_families p1_walls p1_trees p1_owners p3 t_days t_sickBits t_shares) (fun (u : (Nat → Int32)) => post u) (fun u => (wX6_shareBy cI cC cB cS a_p1 a_p1_kinds a_p1_hours a_p1_lands a_p1_owners a_p1_treeWalls a_p1_treePlaces a_p3 a_t a_t_land a_t_places a_t_shares a_t_did p1_families p1_walls p1_trees p1_owners p3 t_days t_sickBits u)) 0 0 :=
  ctrV_of (cc := cX6_shareBy) (maxL := 6) (by decide) rfl (Nat.le_of_ble_eq_true rfl) (fun X hret _ _ _ hP hD hS hl => k_X6_shareBy l D cI cC cB cS a_p1 a_p1_kinds a_p1_hours a_p1_lands a_p1_owners a_p1_treeWalls a_p1_treePlaces a_p3 a_t a_t_land a_t_places a_t_shares a_t_did p1_families p1_walls p1_trees p1_owners p3 t_days t_sickBits t_shares x2 hp X hret hP hD hS hl)
-- sharedBy(LLeaningWalls$County;I)I
abbrev rmX6_sharedBy : Room := { frames := 1, cells := 0, slots := 0, locals := 20 }
abbrev wX6_sharedBy (cI cC cB cS : ClassId) (a_p1 a_p1_kinds a_p1_hours a_p1_lands a_p1_owners a_p1_treeWalls a_p1_treePlaces a_t a_t_land a_t_places a_t_shares a_t_did : Nat) (p1_families : Int32) (p1_walls : Int32) (p1_trees : Int32) (p1_owners : Nat → Int32) (t_days : Int32) (t_sickBits : Int32) (t_shares : Nat → Int32) : va_W := [(a_p1, .inr (1, [.int p1_families, .int p1_walls, .int p1_trees, .ref a_p1_kinds, .ref a_p1_hours, .ref a_p1_lands, .ref a_p1_owners, .ref a_p1_treeWalls, .ref a_p1_treePlaces])), (a_p1_owners, .inl (cI, 18, .inl p1_owners)), (a_t, .inr (6, [.int t_days, .int t_sickBits, .ref a_t_land, .ref a_t_places, .ref a_t_shares, .ref a_t_did])), (a_t_shares, .inl (cI, 18, .inl t_shares))]
theorem hNm_X6_sharedBy : hNm yX6_sharedBy 2 := by decide +kernel
theorem m_X6_sharedBy_f60 : Cond.fieldLink RX6 60 "LeaningWalls$County" "owners" "[I" ∈ wsX6_sharedBy := by decide +kernel
theorem in_X6_sharedBy_X1 : ∀ w ∈ wsX10, w ∈ wsX6_sharedBy := by decide +kernel
theorem m_X6_sharedBy_f18 : Cond.fieldLink RX6 18 "LeaningWalls$Stand" "shares" "[I" ∈ wsX6_sharedBy := by decide +kernel
theorem in_X6_sharedBy_X6 : ∀ w ∈ wsX60, w ∈ wsX6_sharedBy := by decide +kernel
def P_X6_sharedBy_b35 (p1_walls : Int32) (p1_owners : Nat → Int32) (t_shares : Nat → Int32) (k5 : Int32 → Int32 → Int32 → Prop) (post : Int32 → Prop) (x2 : Int32) (x3 : Int32) (x4 : Int32) : Prop := k5 x2 x3 (x4 + (1 : Int32))
def P_X6_sharedBy_L5 (p1_walls : Int32) (p1_owners : Nat → Int32) (t_shares : Nat → Int32)  (post : Int32 → Prop) : Nat → Int32 → Int32 → Int32 → Prop
  | 0, _, _, _ => False
  | n5 + 1, x2, x3, x4 => P_X1_sides p1_walls (fun r8 => (r8 ≤ x4 → post x3) ∧ (¬ r8 ≤ x4 → vp_in x4 18 ∧ ((¬ (p1_owners x4.toNatClampNeg) = x2 → P_X6_sharedBy_b35 p1_walls p1_owners t_shares (P_X6_sharedBy_L5 p1_walls p1_owners t_shares post n5) post x2 x3 x4) ∧ ((p1_owners x4.toNatClampNeg) = x2 → vp_in x4 18 ∧ (P_X6_sharedBy_b35 p1_walls p1_owners t_shares (P_X6_sharedBy_L5 p1_walls p1_owners t_shares post n5) post x2 (x3 + (t_shares x4.toNatClampNeg)) x4)))))
def P_X6_sharedBy (x2 : Int32) (p1_walls : Int32) (p1_owners : Nat → Int32) (t_shares : Nat → Int32) (post : Int32 → Prop) : Prop := ∃ n5 : Nat, P_X6_sharedBy_L5 p1_walls p1_owners t_shares post n5 x2 (0 : Int32) (0 : Int32)
set_option maxHeartbeats 4000000 in
set_option maxRecDepth 100000 in
theorem k_X6_sharedBy (l : Launch) (D : va_G) (cI cC cB cS : ClassId) (a_p1 a_p1_kinds a_p1_hours a_p1_lands a_p1_owners a_p1_treeWalls a_p1_treePlaces a_t a_t_land a_t_places a_t_shares a_t_did : Nat) (p1_families : Int32) (p1_walls : Int32) (p1_trees : Int32) (p1_owners : Nat → Int32) (t_days : Int32) (t_sickBits : Int32) (t_shares : Nat → Int32) (x2 : Int32) {post : Int32 → Prop} (hp : P_X6_sharedBy x2 p1_walls p1_owners t_shares post) {p : Program} {e : Env} {s : State} {m : MethodId} {args : Array Value} {below : List Frame} {meth : Method} {c : Code} {Q : State → Prop} {A : Nat → Prop} {H0 : Heap} (X : WCtx p s m args c cX6_sharedBy 5 wsX6_sharedBy RX6 H0 A D (tyL cI cC cB cS)) (hret : ∀ {pc : Nat} {ls : Array Slot} {H : Heap} {locs : List Loc} {r : Int32} (u : Unit), decode cX6_sharedBy pc = .ok (.ireturn, 1) → post r  → va_P D vwCl (wX6_sharedBy cI cC cB cS a_p1 a_p1_kinds a_p1_hours a_p1_lands a_p1_owners a_p1_treeWalls a_p1_treePlaces a_t a_t_land a_t_places a_t_shares a_t_did p1_families p1_walls p1_trees p1_owners t_days t_sickBits t_shares) H → va_D A (wX6_sharedBy cI cC cB cS a_p1 a_p1_kinds a_p1_hours a_p1_lands a_p1_owners a_p1_treeWalls a_p1_treePlaces a_t a_t_land a_t_places a_t_shares a_t_did p1_families p1_walls p1_trees p1_owners t_days t_sickBits t_shares) → va_S A H0 H locs → W p l e rmX6_sharedBy s m args below meth c H locs 0 0 Q (F0 m pc ls [.int r])) {H : Heap} {locs : List Loc} {ls : Array Slot} (hP : va_P D vwCl (wX6_sharedBy cI cC cB cS a_p1 a_p1_kinds a_p1_hours a_p1_lands a_p1_owners a_p1_treeWalls a_p1_treePlaces a_t a_t_land a_t_places a_t_shares a_t_did p1_families p1_walls p1_trees p1_owners t_days t_sickBits t_shares) H) (hD : va_D A (wX6_sharedBy cI cC cB cS a_p1 a_p1_kinds a_p1_hours a_p1_lands a_p1_owners a_p1_treeWalls a_p1_treePlaces a_t a_t_land a_t_places a_t_shares a_t_did p1_families p1_walls p1_trees p1_owners t_days t_sickBits t_shares)) (hS : va_S A H0 H locs) (hl : lv_has ls 5 [(0, .ref a_t), (1, .ref a_p1), (2, .int x2)]) : W p l e rmX6_sharedBy s m args below meth c H locs 0 0 Q (F0 m 0 ls []) := by
  obtain ⟨⟨hx, hb, hml, hown, hts⟩, hA, hK, hN⟩ := id X
  have L5 : ∀ (n5 : Nat) (x2 : Int32) (x3 : Int32) (x4 : Int32)  (H : Heap) (locs : List Loc), va_P D vwCl (wX6_sharedBy cI cC cB cS a_p1 a_p1_kinds a_p1_hours a_p1_lands a_p1_owners a_p1_treeWalls a_p1_treePlaces a_t a_t_land a_t_places a_t_shares a_t_did p1_families p1_walls p1_trees p1_owners t_days t_sickBits t_shares) H → va_D A (wX6_sharedBy cI cC cB cS a_p1 a_p1_kinds a_p1_hours a_p1_lands a_p1_owners a_p1_treeWalls a_p1_treePlaces a_t a_t_land a_t_places a_t_shares a_t_did p1_families p1_walls p1_trees p1_owners t_days t_sickBits t_shares) → va_S A H0 H locs → P_X6_sharedBy_L5 p1_walls p1_owners t_shares post n5 x2 x3 x4 → ∀ ls : Array Slot, lv_has ls 5 [(0, .ref a_t), (1, .ref a_p1), (2, .int x2), (3, .int x3), (4, .int x4)] → W p l e rmX6_sharedBy s m args below meth c H locs 0 0 Q (F0 m 5 ls []) := by
    intro n5
    induction n5 with
    | zero => intro x2 x3 x4 H locs hP hD hS hp; exact False.elim hp
    | succ n5 ih5 =>
      have J35 : ∀ (x2 : Int32) (x3 : Int32) (x4 : Int32)  (H : Heap) (locs : List Loc), va_P D vwCl (wX6_sharedBy cI cC cB cS a_p1 a_p1_kinds a_p1_hours a_p1_lands a_p1_owners a_p1_treeWalls a_p1_treePlaces a_t a_t_land a_t_places a_t_shares a_t_did p1_families p1_walls p1_trees p1_owners t_days t_sickBits t_shares) H → va_D A (wX6_sharedBy cI cC cB cS a_p1 a_p1_kinds a_p1_hours a_p1_lands a_p1_owners a_p1_treeWalls a_p1_treePlaces a_t a_t_land a_t_places a_t_shares a_t_did p1_families p1_walls p1_trees p1_owners t_days t_sickBits t_shares) → va_S A H0 H locs → P_X6_sharedBy_b35 p1_walls p1_owners t_shares (P_X6_sharedBy_L5 p1_walls p1_owners t_shares post n5) post x2 x3 x4 → ∀ ls : Array Slot, lv_has ls 5 [(0, .ref a_t), (1, .ref a_p1), (2, .int x2), (3, .int x3), (4, .int x4)] → W p l e rmX6_sharedBy s m args below meth c H locs 0 0 Q (F0 m 35 ls []) := by
        intro x2 x3 x4 H locs hP hD hS hp ls hl
        unfold P_X6_sharedBy_b35 at hp
        refine lv_iinc (v := x4 + (1 : Int32)) (lv' := [(4, .int (x4 + (1 : Int32))), (0, .ref a_t), (1, .ref a_p1), (2, .int x2), (3, .int x3)]) hx hb dX6_sharedBy_35 hl (k := 4) rfl rfl (by decide) rfl (fun ls hl => ?_)
        refine lv_goto (tgt := 5) hx hb dX6_sharedBy_38 (by decide) ?_
        exact ih5 x2 x3 (x4 + (1 : Int32)) _ _ hP hD hS hp _ (lv_sub hl [1, 2, 3, 4, 0] rfl)
      intro x2 x3 x4 H locs hP hD hS hp ls hl
      rw [P_X6_sharedBy_L5] at hp
      refine lv_iload hx hb dX6_sharedBy_5 (lv_at hl 4 rfl) ?_
      refine lv_aload_n hx hb dX6_sharedBy_7 rfl (lv_at hl 1 rfl) ?_
      refine hcV_i (As := []) (rest := [.int x4]) (fun u => (wX6_sharedBy cI cC cB cS a_p1 a_p1_kinds a_p1_hours a_p1_lands a_p1_owners a_p1_treeWalls a_p1_treePlaces a_t a_t_land a_t_places a_t_shares a_t_did p1_families p1_walls p1_trees p1_owners t_days t_sickBits t_shares)) X hP hD hS hl.1 [0] [1, 2, 3] [3, 0, 1, 2] 0 0 (@c_X1_sides l D cI cC cB cS a_p1 a_p1_kinds a_p1_hours a_p1_lands a_p1_owners a_p1_treeWalls a_p1_treePlaces p1_families p1_walls p1_trees _ hp) ⟨rfl, rfl⟩ (fun _ => rfl) (by decide +kernel) gX6_sharedBy_X1_sides rfl rfl rfl rfl hNm_X1_sides ⟨Nat.le_of_ble_eq_true rfl, Nat.le_of_ble_eq_true rfl⟩ (ci := 1) rfl rfl rfl rfl (Nat.le_of_ble_eq_true rfl) dX6_sharedBy_8 ⟨Nat.le_of_ble_eq_true rfl, Nat.le_of_ble_eq_true rfl⟩ (fun r8 _ H locs hp hP hD hS => ?_)
      try dsimp only at hp
      have hP : va_P D vwCl (wX6_sharedBy cI cC cB cS a_p1 a_p1_kinds a_p1_hours a_p1_lands a_p1_owners a_p1_treeWalls a_p1_treePlaces a_t a_t_land a_t_places a_t_shares a_t_did p1_families p1_walls p1_trees p1_owners t_days t_sickBits t_shares) H := hP
      have hD : va_D A (wX6_sharedBy cI cC cB cS a_p1 a_p1_kinds a_p1_hours a_p1_lands a_p1_owners a_p1_treeWalls a_p1_treePlaces a_t a_t_land a_t_places a_t_shares a_t_did p1_families p1_walls p1_trees p1_owners t_days t_sickBits t_shares) := hD
      refine lv_icmp_ge (tgt := 41) hx hb dX6_sharedBy_11 (by decide) (fun hc => ?_) (fun hc => ?_)
      · have hp := hp.1 hc
        refine lv_iload_n hx hb dX6_sharedBy_41 rfl (lv_at hl 3 rfl) ?_
        exact hret () dX6_sharedBy_42 hp hP hD hS
      · have hp := hp.2 hc
        refine lv_aload_n hx hb dX6_sharedBy_14 rfl (lv_at hl 1 rfl) ?_
        refine va_get (D := D) (ci := 1) (v := .ref a_p1_owners) (C := RX1) (T := TX1) (N := 9) hx hb hts in_X6_sharedBy_X1 hown hK hP 0 rfl rfl 6 (by decide) (hts _ m_X6_sharedBy_f60) (fun _ h9 => h9) rfl dX6_sharedBy_15 ?_
        refine lv_iload hx hb dX6_sharedBy_18 (lv_at hl 4 rfl) ?_
        obtain ⟨hi, hp⟩ := hp
        refine va_iald (D := D) hx hb hK hP 1 0 rfl rfl hi dX6_sharedBy_20 ?_
        refine lv_iload_n hx hb dX6_sharedBy_21 rfl (lv_at hl 2 rfl) ?_
        refine lv_icmp_ne (tgt := 35) hx hb dX6_sharedBy_22 (by decide) (fun hc => ?_) (fun hc => ?_)
        · have hp := hp.1 hc
          exact J35 x2 x3 x4 _ _ hP hD hS hp _ (lv_sub hl [0, 1, 2, 3, 4] rfl)
        · have hp := hp.2 hc
          refine lv_iload_n hx hb dX6_sharedBy_25 rfl (lv_at hl 3 rfl) ?_
          refine lv_aload_n hx hb dX6_sharedBy_26 rfl (lv_at hl 0 rfl) ?_
          refine va_get (D := D) (ci := 6) (v := .ref a_t_shares) (C := RX6) (T := TX6) (N := 6) hx hb hts in_X6_sharedBy_X6 hown hK hP 2 rfl rfl 4 (by decide) (hts _ m_X6_sharedBy_f18) (fun _ h9 => h9) rfl dX6_sharedBy_27 ?_
          refine lv_iload hx hb dX6_sharedBy_30 (lv_at hl 4 rfl) ?_
          obtain ⟨hi, hp⟩ := hp
          refine va_iald (D := D) hx hb hK hP 3 0 rfl rfl hi dX6_sharedBy_32 ?_
          refine lv_iadd hx hb dX6_sharedBy_33 ?_
          refine lv_istore_n (lv' := [(3, .int (x3 + (t_shares x4.toNatClampNeg))), (0, .ref a_t), (1, .ref a_p1), (2, .int x2), (4, .int x4)]) hx hb dX6_sharedBy_34 rfl hl (by decide) rfl (fun ls hl => ?_)
          exact J35 x2 (x3 + (t_shares x4.toNatClampNeg)) x4 _ _ hP hD hS hp _ (lv_sub hl [1, 2, 3, 0, 4] rfl)
  unfold P_X6_sharedBy at hp
  refine lv_iconst (v := 0) hx hb dX6_sharedBy_0 (by decide) ?_
  refine lv_istore_n (lv' := [(3, .int (0 : Int32)), (0, .ref a_t), (1, .ref a_p1), (2, .int x2)]) hx hb dX6_sharedBy_1 rfl hl (by decide) rfl (fun ls hl => ?_)
  refine lv_iconst (v := 0) hx hb dX6_sharedBy_2 (by decide) ?_
  refine lv_istore (lv' := [(4, .int (0 : Int32)), (3, .int (0 : Int32)), (0, .ref a_t), (1, .ref a_p1), (2, .int x2)]) hx hb dX6_sharedBy_3 hl (by decide) rfl (fun ls hl => ?_)
  obtain ⟨n5, hp⟩ := hp
  exact L5 n5 x2 (0 : Int32) (0 : Int32) _ _ hP hD hS hp _ (lv_sub hl [2, 3, 4, 1, 0] rfl)
theorem c_X6_sharedBy (l : Launch) (D : va_G) (cI cC cB cS : ClassId) (a_p1 a_p1_kinds a_p1_hours a_p1_lands a_p1_owners a_p1_treeWalls a_p1_treePlaces a_t a_t_land a_t_places a_t_shares a_t_did : Nat) (p1_families : Int32) (p1_walls : Int32) (p1_trees : Int32) (p1_owners : Nat → Int32) (t_days : Int32) (t_sickBits : Int32) (t_shares : Nat → Int32) (x2 : Int32) {post : Int32 → Prop} (hp : P_X6_sharedBy x2 p1_walls p1_owners t_shares post) : CtrI l yX6_sharedBy wsX6_sharedBy rmX6_sharedBy D (tyL cI cC cB cS) [.ref a_t, .ref a_p1, .int x2] (wX6_sharedBy cI cC cB cS a_p1 a_p1_kinds a_p1_hours a_p1_lands a_p1_owners a_p1_treeWalls a_p1_treePlaces a_t a_t_land a_t_places a_t_shares a_t_did p1_families p1_walls p1_trees p1_owners t_days t_sickBits t_shares) (fun r (u : Unit) => post r ) (fun u => (wX6_sharedBy cI cC cB cS a_p1 a_p1_kinds a_p1_hours a_p1_lands a_p1_owners a_p1_treeWalls a_p1_treePlaces a_t a_t_land a_t_places a_t_shares a_t_did p1_families p1_walls p1_trees p1_owners t_days t_sickBits t_shares)) 0 0 :=
  ctrI_of (cc := cX6_sharedBy) (maxL := 5) (by decide) rfl (Nat.le_of_ble_eq_true rfl) (fun X hret _ _ _ hP hD hS hl => k_X6_sharedBy l D cI cC cB cS a_p1 a_p1_kinds a_p1_hours a_p1_lands a_p1_owners a_p1_treeWalls a_p1_treePlaces a_t a_t_land a_t_places a_t_shares a_t_did p1_families p1_walls p1_trees p1_owners t_days t_sickBits t_shares x2 hp X hret hP hD hS hl)
-- treeOwner(LLeaningWalls$County;I)I
abbrev rmX6_treeOwner : Room := { frames := 0, cells := 0, slots := 0, locals := 0 }
abbrev wX6_treeOwner (cI cC cB cS : ClassId) (a_p1 a_p1_kinds a_p1_hours a_p1_lands a_p1_owners a_p1_treeWalls a_p1_treePlaces a_t a_t_land a_t_places a_t_shares a_t_did : Nat) (p1_families : Int32) (p1_walls : Int32) (p1_trees : Int32) (p1_treeWalls : Nat → Int32) (t_days : Int32) (t_sickBits : Int32) (t_places : Nat → Int32) (p1_treePlaces : Nat → Int32) (p1_owners : Nat → Int32) : va_W := [(a_p1, .inr (1, [.int p1_families, .int p1_walls, .int p1_trees, .ref a_p1_kinds, .ref a_p1_hours, .ref a_p1_lands, .ref a_p1_owners, .ref a_p1_treeWalls, .ref a_p1_treePlaces])), (a_p1_treeWalls, .inl (cI, 6, .inl p1_treeWalls)), (a_t, .inr (6, [.int t_days, .int t_sickBits, .ref a_t_land, .ref a_t_places, .ref a_t_shares, .ref a_t_did])), (a_t_places, .inl (cI, 9, .inl t_places)), (a_p1_treePlaces, .inl (cI, 6, .inl p1_treePlaces)), (a_p1_owners, .inl (cI, 18, .inl p1_owners))]
theorem hNm_X6_treeOwner : hNm yX6_treeOwner 2 := by decide +kernel
theorem m_X6_treeOwner_f63 : Cond.fieldLink RX6 63 "LeaningWalls$County" "treeWalls" "[I" ∈ wsX6_treeOwner := by decide +kernel
theorem in_X6_treeOwner_X1 : ∀ w ∈ wsX10, w ∈ wsX6_treeOwner := by decide +kernel
theorem m_X6_treeOwner_f60 : Cond.fieldLink RX6 60 "LeaningWalls$County" "owners" "[I" ∈ wsX6_treeOwner := by decide +kernel
theorem m_X6_treeOwner_f15 : Cond.fieldLink RX6 15 "LeaningWalls$Stand" "places" "[I" ∈ wsX6_treeOwner := by decide +kernel
theorem in_X6_treeOwner_X6 : ∀ w ∈ wsX60, w ∈ wsX6_treeOwner := by decide +kernel
theorem m_X6_treeOwner_f66 : Cond.fieldLink RX6 66 "LeaningWalls$County" "treePlaces" "[I" ∈ wsX6_treeOwner := by decide +kernel
def P_X6_treeOwner_b37 (p1_treeWalls : Nat → Int32) (t_places : Nat → Int32) (p1_treePlaces : Nat → Int32) (p1_owners : Nat → Int32)  (post : Int32 → Prop) (y1 : Int32) : Prop := vp_in y1 18 ∧ (post (p1_owners y1.toNatClampNeg))
def P_X6_treeOwner (x2 : Int32) (p1_treeWalls : Nat → Int32) (t_places : Nat → Int32) (p1_treePlaces : Nat → Int32) (p1_owners : Nat → Int32) (post : Int32 → Prop) : Prop := vp_in x2 6 ∧ (vp_in (p1_treeWalls x2.toNatClampNeg) 9 ∧ (vp_in x2 6 ∧ (((t_places (p1_treeWalls x2.toNatClampNeg).toNatClampNeg) < (p1_treePlaces x2.toNatClampNeg) → P_X6_treeOwner_b37 p1_treeWalls t_places p1_treePlaces p1_owners post (((2 : Int32) * (p1_treeWalls x2.toNatClampNeg)) + (1 : Int32))) ∧ (¬ (t_places (p1_treeWalls x2.toNatClampNeg).toNatClampNeg) < (p1_treePlaces x2.toNatClampNeg) → P_X6_treeOwner_b37 p1_treeWalls t_places p1_treePlaces p1_owners post ((2 : Int32) * (p1_treeWalls x2.toNatClampNeg))))))
set_option maxHeartbeats 4000000 in
set_option maxRecDepth 100000 in
theorem k_X6_treeOwner (l : Launch) (D : va_G) (cI cC cB cS : ClassId) (a_p1 a_p1_kinds a_p1_hours a_p1_lands a_p1_owners a_p1_treeWalls a_p1_treePlaces a_t a_t_land a_t_places a_t_shares a_t_did : Nat) (p1_families : Int32) (p1_walls : Int32) (p1_trees : Int32) (p1_treeWalls : Nat → Int32) (t_days : Int32) (t_sickBits : Int32) (t_places : Nat → Int32) (p1_treePlaces : Nat → Int32) (p1_owners : Nat → Int32) (x2 : Int32) {post : Int32 → Prop} (hp : P_X6_treeOwner x2 p1_treeWalls t_places p1_treePlaces p1_owners post) {p : Program} {e : Env} {s : State} {m : MethodId} {args : Array Value} {below : List Frame} {meth : Method} {c : Code} {Q : State → Prop} {A : Nat → Prop} {H0 : Heap} (X : WCtx p s m args c cX6_treeOwner 4 wsX6_treeOwner RX6 H0 A D (tyL cI cC cB cS)) (hret : ∀ {pc : Nat} {ls : Array Slot} {H : Heap} {locs : List Loc} {r : Int32} (u : Unit), decode cX6_treeOwner pc = .ok (.ireturn, 1) → post r  → va_P D vwCl (wX6_treeOwner cI cC cB cS a_p1 a_p1_kinds a_p1_hours a_p1_lands a_p1_owners a_p1_treeWalls a_p1_treePlaces a_t a_t_land a_t_places a_t_shares a_t_did p1_families p1_walls p1_trees p1_treeWalls t_days t_sickBits t_places p1_treePlaces p1_owners) H → va_D A (wX6_treeOwner cI cC cB cS a_p1 a_p1_kinds a_p1_hours a_p1_lands a_p1_owners a_p1_treeWalls a_p1_treePlaces a_t a_t_land a_t_places a_t_shares a_t_did p1_families p1_walls p1_trees p1_treeWalls t_days t_sickBits t_places p1_treePlaces p1_owners) → va_S A H0 H locs → W p l e rmX6_treeOwner s m args below meth c H locs 0 0 Q (F0 m pc ls [.int r])) {H : Heap} {locs : List Loc} {ls : Array Slot} (hP : va_P D vwCl (wX6_treeOwner cI cC cB cS a_p1 a_p1_kinds a_p1_hours a_p1_lands a_p1_owners a_p1_treeWalls a_p1_treePlaces a_t a_t_land a_t_places a_t_shares a_t_did p1_families p1_walls p1_trees p1_treeWalls t_days t_sickBits t_places p1_treePlaces p1_owners) H) (hD : va_D A (wX6_treeOwner cI cC cB cS a_p1 a_p1_kinds a_p1_hours a_p1_lands a_p1_owners a_p1_treeWalls a_p1_treePlaces a_t a_t_land a_t_places a_t_shares a_t_did p1_families p1_walls p1_trees p1_treeWalls t_days t_sickBits t_places p1_treePlaces p1_owners)) (hS : va_S A H0 H locs) (hl : lv_has ls 4 [(0, .ref a_t), (1, .ref a_p1), (2, .int x2)]) : W p l e rmX6_treeOwner s m args below meth c H locs 0 0 Q (F0 m 0 ls []) := by
  obtain ⟨⟨hx, hb, hml, hown, hts⟩, hA, hK, hN⟩ := id X
  have J37 : ∀ (y1 : Int32)  (H : Heap) (locs : List Loc), va_P D vwCl (wX6_treeOwner cI cC cB cS a_p1 a_p1_kinds a_p1_hours a_p1_lands a_p1_owners a_p1_treeWalls a_p1_treePlaces a_t a_t_land a_t_places a_t_shares a_t_did p1_families p1_walls p1_trees p1_treeWalls t_days t_sickBits t_places p1_treePlaces p1_owners) H → va_D A (wX6_treeOwner cI cC cB cS a_p1 a_p1_kinds a_p1_hours a_p1_lands a_p1_owners a_p1_treeWalls a_p1_treePlaces a_t a_t_land a_t_places a_t_shares a_t_did p1_families p1_walls p1_trees p1_treeWalls t_days t_sickBits t_places p1_treePlaces p1_owners) → va_S A H0 H locs → P_X6_treeOwner_b37 p1_treeWalls t_places p1_treePlaces p1_owners post y1 → ∀ ls : Array Slot, lv_has ls 4 [] → W p l e rmX6_treeOwner s m args below meth c H locs 0 0 Q (F0 m 37 ls [.int y1, .ref a_p1_owners]) := by
    intro y1 H locs hP hD hS hp ls hl
    unfold P_X6_treeOwner_b37 at hp
    obtain ⟨hi, hp⟩ := hp
    refine va_iald (D := D) hx hb hK hP 5 0 rfl rfl hi dX6_treeOwner_37 ?_
    exact hret () dX6_treeOwner_38 hp hP hD hS
  unfold P_X6_treeOwner at hp
  refine lv_aload_n hx hb dX6_treeOwner_0 rfl (lv_at hl 1 rfl) ?_
  refine va_get (D := D) (ci := 1) (v := .ref a_p1_treeWalls) (C := RX1) (T := TX1) (N := 9) hx hb hts in_X6_treeOwner_X1 hown hK hP 0 rfl rfl 7 (by decide) (hts _ m_X6_treeOwner_f63) (fun _ h9 => h9) rfl dX6_treeOwner_1 ?_
  refine lv_iload_n hx hb dX6_treeOwner_4 rfl (lv_at hl 2 rfl) ?_
  obtain ⟨hi, hp⟩ := hp
  refine va_iald (D := D) hx hb hK hP 1 0 rfl rfl hi dX6_treeOwner_5 ?_
  refine lv_istore_n (lv' := [(3, .int (p1_treeWalls x2.toNatClampNeg)), (0, .ref a_t), (1, .ref a_p1), (2, .int x2)]) hx hb dX6_treeOwner_6 rfl hl (by decide) rfl (fun ls hl => ?_)
  refine lv_aload_n hx hb dX6_treeOwner_7 rfl (lv_at hl 2 rfl) ?_
  refine va_get (D := D) (ci := 1) (v := .ref a_p1_owners) (C := RX1) (T := TX1) (N := 9) hx hb hts in_X6_treeOwner_X1 hown hK hP 0 rfl rfl 6 (by decide) (hts _ m_X6_treeOwner_f60) (fun _ h9 => h9) rfl dX6_treeOwner_8 ?_
  refine lv_aload_n hx hb dX6_treeOwner_11 rfl (lv_at hl 1 rfl) ?_
  refine va_get (D := D) (ci := 6) (v := .ref a_t_places) (C := RX6) (T := TX6) (N := 6) hx hb hts in_X6_treeOwner_X6 hown hK hP 2 rfl rfl 3 (by decide) (hts _ m_X6_treeOwner_f15) (fun _ h9 => h9) rfl dX6_treeOwner_12 ?_
  refine lv_iload_n hx hb dX6_treeOwner_15 rfl (lv_at hl 0 rfl) ?_
  obtain ⟨hi, hp⟩ := hp
  refine va_iald (D := D) hx hb hK hP 3 0 rfl rfl hi dX6_treeOwner_16 ?_
  refine lv_aload_n hx hb dX6_treeOwner_17 rfl (lv_at hl 2 rfl) ?_
  refine va_get (D := D) (ci := 1) (v := .ref a_p1_treePlaces) (C := RX1) (T := TX1) (N := 9) hx hb hts in_X6_treeOwner_X1 hown hK hP 0 rfl rfl 8 (by decide) (hts _ m_X6_treeOwner_f66) (fun _ h9 => h9) rfl dX6_treeOwner_18 ?_
  refine lv_iload_n hx hb dX6_treeOwner_21 rfl (lv_at hl 3 rfl) ?_
  obtain ⟨hi, hp⟩ := hp
  refine va_iald (D := D) hx hb hK hP 4 0 rfl rfl hi dX6_treeOwner_22 ?_
  refine lv_icmp_lt (tgt := 32) hx hb dX6_treeOwner_23 (by decide) (fun hc => ?_) (fun hc => ?_)
  · have hp := hp.1 hc
    refine lv_iconst (v := 2) hx hb dX6_treeOwner_32 (by decide) ?_
    refine lv_iload_n hx hb dX6_treeOwner_33 rfl (lv_at hl 0 rfl) ?_
    refine lv_imul hx hb dX6_treeOwner_34 ?_
    refine lv_iconst (v := 1) hx hb dX6_treeOwner_35 (by decide) ?_
    refine lv_iadd hx hb dX6_treeOwner_36 ?_
    exact J37 (((2 : Int32) * (p1_treeWalls x2.toNatClampNeg)) + (1 : Int32)) _ _ hP hD hS hp _ (lv_sub hl [] rfl)
  · have hp := hp.2 hc
    refine lv_iconst (v := 2) hx hb dX6_treeOwner_26 (by decide) ?_
    refine lv_iload_n hx hb dX6_treeOwner_27 rfl (lv_at hl 0 rfl) ?_
    refine lv_imul hx hb dX6_treeOwner_28 ?_
    refine lv_goto (tgt := 37) hx hb dX6_treeOwner_29 (by decide) ?_
    exact J37 ((2 : Int32) * (p1_treeWalls x2.toNatClampNeg)) _ _ hP hD hS hp _ (lv_sub hl [] rfl)
theorem c_X6_treeOwner (l : Launch) (D : va_G) (cI cC cB cS : ClassId) (a_p1 a_p1_kinds a_p1_hours a_p1_lands a_p1_owners a_p1_treeWalls a_p1_treePlaces a_t a_t_land a_t_places a_t_shares a_t_did : Nat) (p1_families : Int32) (p1_walls : Int32) (p1_trees : Int32) (p1_treeWalls : Nat → Int32) (t_days : Int32) (t_sickBits : Int32) (t_places : Nat → Int32) (p1_treePlaces : Nat → Int32) (p1_owners : Nat → Int32) (x2 : Int32) {post : Int32 → Prop} (hp : P_X6_treeOwner x2 p1_treeWalls t_places p1_treePlaces p1_owners post) : CtrI l yX6_treeOwner wsX6_treeOwner rmX6_treeOwner D (tyL cI cC cB cS) [.ref a_t, .ref a_p1, .int x2] (wX6_treeOwner cI cC cB cS a_p1 a_p1_kinds a_p1_hours a_p1_lands a_p1_owners a_p1_treeWalls a_p1_treePlaces a_t a_t_land a_t_places a_t_shares a_t_did p1_families p1_walls p1_trees p1_treeWalls t_days t_sickBits t_places p1_treePlaces p1_owners) (fun r (u : Unit) => post r ) (fun u => (wX6_treeOwner cI cC cB cS a_p1 a_p1_kinds a_p1_hours a_p1_lands a_p1_owners a_p1_treeWalls a_p1_treePlaces a_t a_t_land a_t_places a_t_shares a_t_did p1_families p1_walls p1_trees p1_treeWalls t_days t_sickBits t_places p1_treePlaces p1_owners)) 0 0 :=
  ctrI_of (cc := cX6_treeOwner) (maxL := 4) (by decide) rfl (Nat.le_of_ble_eq_true rfl) (fun X hret _ _ _ hP hD hS hl => k_X6_treeOwner l D cI cC cB cS a_p1 a_p1_kinds a_p1_hours a_p1_lands a_p1_owners a_p1_treeWalls a_p1_treePlaces a_t a_t_land a_t_places a_t_shares a_t_did p1_families p1_walls p1_trees p1_treeWalls t_days t_sickBits t_places p1_treePlaces p1_owners x2 hp X hret hP hD hS hl)
-- does(LLeaningWalls$County;I)I
abbrev rmX6_does : Room := { frames := 0, cells := 0, slots := 0, locals := 0 }
abbrev wX6_does (cI cC cB cS : ClassId) (a_t a_t_land a_t_places a_t_shares a_t_did a_p1 a_p1_kinds a_p1_hours a_p1_lands a_p1_owners a_p1_treeWalls a_p1_treePlaces : Nat) (t_days : Int32) (t_sickBits : Int32) (p1_families : Int32) (p1_walls : Int32) (p1_trees : Int32) (p1_owners : Nat → Int32) (t_shares : Nat → Int32) (p1_kinds : Nat → Int32) (t_land : Nat → Int32) : va_W := [(a_t, .inr (6, [.int t_days, .int t_sickBits, .ref a_t_land, .ref a_t_places, .ref a_t_shares, .ref a_t_did])), (a_p1, .inr (1, [.int p1_families, .int p1_walls, .int p1_trees, .ref a_p1_kinds, .ref a_p1_hours, .ref a_p1_lands, .ref a_p1_owners, .ref a_p1_treeWalls, .ref a_p1_treePlaces])), (a_p1_owners, .inl (cI, 18, .inl p1_owners)), (a_t_shares, .inl (cI, 18, .inl t_shares)), (a_p1_kinds, .inl (cI, 6, .inl p1_kinds)), (a_t_land, .inl (cI, 6, .inl t_land))]
theorem hNm_X6_does : hNm yX6_does 2 := by decide +kernel
theorem m_X6_does_f69 : Cond.fieldLink RX6 69 "LeaningWalls$County" "kinds" "[I" ∈ wsX6_does := by decide +kernel
theorem in_X6_does_X1 : ∀ w ∈ wsX10, w ∈ wsX6_does := by decide +kernel
theorem m_X6_does_f9 : Cond.fieldLink RX6 9 "LeaningWalls$Stand" "land" "[I" ∈ wsX6_does := by decide +kernel
theorem in_X6_does_X6 : ∀ w ∈ wsX60, w ∈ wsX6_does := by decide +kernel
theorem m_X6_does_f24 : Cond.fieldLink RX6 24 "LeaningWalls$Stand" "days" "I" ∈ wsX6_does := by decide +kernel
theorem m_X6_does_f60 : Cond.fieldLink RX6 60 "LeaningWalls$County" "owners" "[I" ∈ wsX6_does := by decide +kernel
theorem m_X6_does_f18 : Cond.fieldLink RX6 18 "LeaningWalls$Stand" "shares" "[I" ∈ wsX6_does := by decide +kernel
theorem m_X6_does_f28 : Cond.fieldLink RX6 28 "LeaningWalls$Stand" "sickBits" "I" ∈ wsX6_does := by decide +kernel
def P_X6_does_b46 (t_days : Int32) (t_sickBits : Int32) (p1_owners : Nat → Int32) (t_shares : Nat → Int32) (p1_kinds : Nat → Int32) (t_land : Nat → Int32)  (post : Int32 → Prop) (x3 : Int32) (x4 : Int32) (y0 : Int32) : Prop := vp_in x3 6 ∧ (((p1_kinds x3.toNatClampNeg).toInt < 0 ∨ 4 < (p1_kinds x3.toNatClampNeg).toInt → post (0 : Int32)) ∧ ((p1_kinds x3.toNatClampNeg).toInt = 0 → (y0 = 0 → post x4) ∧ (¬ y0 = 0 → post (0 : Int32))) ∧ ((p1_kinds x3.toNatClampNeg).toInt = 1 → post (0 : Int32)) ∧ ((p1_kinds x3.toNatClampNeg).toInt = 2 → (y0 = 0 → post x4) ∧ (¬ y0 = 0 → post ((2 : Int32) * x4))) ∧ ((p1_kinds x3.toNatClampNeg).toInt = 3 → (y0 = 0 → post (x4 + (1 : Int32))) ∧ (¬ y0 = 0 → post (1 : Int32))) ∧ ((p1_kinds x3.toNatClampNeg).toInt = 4 → (y0 = 0 → vp_in x3 6 ∧ (((t_land x3.toNatClampNeg) < (10 : Int32) → post x4) ∧ (¬ (t_land x3.toNatClampNeg) < (10 : Int32) → ((2 : Int32) ≤ x4 → post x4) ∧ (¬ (2 : Int32) ≤ x4 → post (2 : Int32))))) ∧ (¬ y0 = 0 → post (0 : Int32))))
def P_X6_does (x2 : Int32) (t_days : Int32) (t_sickBits : Int32) (p1_owners : Nat → Int32) (t_shares : Nat → Int32) (p1_kinds : Nat → Int32) (t_land : Nat → Int32) (post : Int32 → Prop) : Prop := ¬ (7 : Int32) = 0 ∧ ((¬ (t_days - t_days / (7 : Int32) * (7 : Int32)) = (6 : Int32) → vp_in x2 18 ∧ (vp_in x2 18 ∧ ((¬ ((t_sickBits >>> ((p1_owners x2.toNatClampNeg) &&& 31)) &&& (1 : Int32)) = (1 : Int32) → P_X6_does_b46 t_days t_sickBits p1_owners t_shares p1_kinds t_land post (p1_owners x2.toNatClampNeg) (t_shares x2.toNatClampNeg) (0 : Int32)) ∧ (((t_sickBits >>> ((p1_owners x2.toNatClampNeg) &&& 31)) &&& (1 : Int32)) = (1 : Int32) → P_X6_does_b46 t_days t_sickBits p1_owners t_shares p1_kinds t_land post (p1_owners x2.toNatClampNeg) (t_shares x2.toNatClampNeg) (1 : Int32))))) ∧ ((t_days - t_days / (7 : Int32) * (7 : Int32)) = (6 : Int32) → post (0 : Int32)))
set_option maxHeartbeats 4000000 in
set_option maxRecDepth 100000 in
theorem k_X6_does (l : Launch) (D : va_G) (cI cC cB cS : ClassId) (a_t a_t_land a_t_places a_t_shares a_t_did a_p1 a_p1_kinds a_p1_hours a_p1_lands a_p1_owners a_p1_treeWalls a_p1_treePlaces : Nat) (t_days : Int32) (t_sickBits : Int32) (p1_families : Int32) (p1_walls : Int32) (p1_trees : Int32) (p1_owners : Nat → Int32) (t_shares : Nat → Int32) (p1_kinds : Nat → Int32) (t_land : Nat → Int32) (x2 : Int32) {post : Int32 → Prop} (hp : P_X6_does x2 t_days t_sickBits p1_owners t_shares p1_kinds t_land post) {p : Program} {e : Env} {s : State} {m : MethodId} {args : Array Value} {below : List Frame} {meth : Method} {c : Code} {Q : State → Prop} {A : Nat → Prop} {H0 : Heap} (X : WCtx p s m args c cX6_does 6 wsX6_does RX6 H0 A D (tyL cI cC cB cS)) (hret : ∀ {pc : Nat} {ls : Array Slot} {H : Heap} {locs : List Loc} {r : Int32} (u : Unit), decode cX6_does pc = .ok (.ireturn, 1) → post r  → va_P D vwCl (wX6_does cI cC cB cS a_t a_t_land a_t_places a_t_shares a_t_did a_p1 a_p1_kinds a_p1_hours a_p1_lands a_p1_owners a_p1_treeWalls a_p1_treePlaces t_days t_sickBits p1_families p1_walls p1_trees p1_owners t_shares p1_kinds t_land) H → va_D A (wX6_does cI cC cB cS a_t a_t_land a_t_places a_t_shares a_t_did a_p1 a_p1_kinds a_p1_hours a_p1_lands a_p1_owners a_p1_treeWalls a_p1_treePlaces t_days t_sickBits p1_families p1_walls p1_trees p1_owners t_shares p1_kinds t_land) → va_S A H0 H locs → W p l e rmX6_does s m args below meth c H locs 0 0 Q (F0 m pc ls [.int r])) {H : Heap} {locs : List Loc} {ls : Array Slot} (hP : va_P D vwCl (wX6_does cI cC cB cS a_t a_t_land a_t_places a_t_shares a_t_did a_p1 a_p1_kinds a_p1_hours a_p1_lands a_p1_owners a_p1_treeWalls a_p1_treePlaces t_days t_sickBits p1_families p1_walls p1_trees p1_owners t_shares p1_kinds t_land) H) (hD : va_D A (wX6_does cI cC cB cS a_t a_t_land a_t_places a_t_shares a_t_did a_p1 a_p1_kinds a_p1_hours a_p1_lands a_p1_owners a_p1_treeWalls a_p1_treePlaces t_days t_sickBits p1_families p1_walls p1_trees p1_owners t_shares p1_kinds t_land)) (hS : va_S A H0 H locs) (hl : lv_has ls 6 [(0, .ref a_t), (1, .ref a_p1), (2, .int x2)]) : W p l e rmX6_does s m args below meth c H locs 0 0 Q (F0 m 0 ls []) := by
  obtain ⟨⟨hx, hb, hml, hown, hts⟩, hA, hK, hN⟩ := id X
  have J46 : ∀ (x3 : Int32) (x4 : Int32) (y0 : Int32)  (H : Heap) (locs : List Loc), va_P D vwCl (wX6_does cI cC cB cS a_t a_t_land a_t_places a_t_shares a_t_did a_p1 a_p1_kinds a_p1_hours a_p1_lands a_p1_owners a_p1_treeWalls a_p1_treePlaces t_days t_sickBits p1_families p1_walls p1_trees p1_owners t_shares p1_kinds t_land) H → va_D A (wX6_does cI cC cB cS a_t a_t_land a_t_places a_t_shares a_t_did a_p1 a_p1_kinds a_p1_hours a_p1_lands a_p1_owners a_p1_treeWalls a_p1_treePlaces t_days t_sickBits p1_families p1_walls p1_trees p1_owners t_shares p1_kinds t_land) → va_S A H0 H locs → P_X6_does_b46 t_days t_sickBits p1_owners t_shares p1_kinds t_land post x3 x4 y0 → ∀ ls : Array Slot, lv_has ls 6 [(0, .ref a_t), (1, .ref a_p1), (3, .int x3), (4, .int x4)] → W p l e rmX6_does s m args below meth c H locs 0 0 Q (F0 m 46 ls [.int y0]) := by
    intro x3 x4 y0 H locs hP hD hS hp ls hl
    unfold P_X6_does_b46 at hp
    refine lv_istore (lv' := [(5, .int y0), (0, .ref a_t), (1, .ref a_p1), (3, .int x3), (4, .int x4)]) hx hb dX6_does_46 hl (by decide) rfl (fun ls hl => ?_)
    refine lv_aload_n hx hb dX6_does_48 rfl (lv_at hl 2 rfl) ?_
    refine va_get (D := D) (ci := 1) (v := .ref a_p1_kinds) (C := RX1) (T := TX1) (N := 9) hx hb hts in_X6_does_X1 hown hK hP 1 rfl rfl 3 (by decide) (hts _ m_X6_does_f69) (fun _ h9 => h9) rfl dX6_does_49 ?_
    refine lv_iload_n hx hb dX6_does_52 rfl (lv_at hl 3 rfl) ?_
    obtain ⟨hi, hp⟩ := hp
    refine va_iald (D := D) hx hb hK hP 4 0 rfl rfl hi dX6_does_53 ?_
    by_cases hsw : (p1_kinds x3.toNatClampNeg).toInt < 0 ∨ 4 < (p1_kinds x3.toNatClampNeg).toInt
    · have hp := hp.1 hsw
      refine lv_tableOut (tgt := 160) hx hb dX6_does_54 hsw (by decide) ?_
      refine lv_iconst (v := 0) hx hb dX6_does_160 (by decide) ?_
      exact hret () dX6_does_161 hp hP hD hS
    · have hsv : (p1_kinds x3.toNatClampNeg).toInt = 0 ∨ (p1_kinds x3.toNatClampNeg).toInt = 1 ∨ (p1_kinds x3.toNatClampNeg).toInt = 2 ∨ (p1_kinds x3.toNatClampNeg).toInt = 3 ∨ (p1_kinds x3.toNatClampNeg).toInt = 4 := by omega
      rcases hsv with hsv | hsv | hsv | hsv | hsv
      · have hp := hp.2.1 hsv
        refine lv_tableIn (off := 34) (tgt := 88) hx hb dX6_does_54 (by omega) (by omega) (by rw [hsv]; rfl) (by decide) ?_
        refine lv_iload hx hb dX6_does_88 (lv_at hl 0 rfl) ?_
        refine lv_if_eq (tgt := 97) hx hb dX6_does_90 (by decide) (fun hc => ?_) (fun hc => ?_)
        · have hp := hp.1 hc
          refine lv_iload hx hb dX6_does_97 (lv_at hl 4 rfl) ?_
          exact hret () dX6_does_99 hp hP hD hS
        · have hp := hp.2 hc
          refine lv_iconst (v := 0) hx hb dX6_does_93 (by decide) ?_
          refine lv_goto (tgt := 99) hx hb dX6_does_94 (by decide) ?_
          exact hret () dX6_does_99 hp hP hD hS
      · have hp := hp.2.2.1 hsv
        refine lv_tableIn (off := 106) (tgt := 160) hx hb dX6_does_54 (by omega) (by omega) (by rw [hsv]; rfl) (by decide) ?_
        refine lv_iconst (v := 0) hx hb dX6_does_160 (by decide) ?_
        exact hret () dX6_does_161 hp hP hD hS
      · have hp := hp.2.2.2.1 hsv
        refine lv_tableIn (off := 46) (tgt := 100) hx hb dX6_does_54 (by omega) (by omega) (by rw [hsv]; rfl) (by decide) ?_
        refine lv_iload hx hb dX6_does_100 (lv_at hl 0 rfl) ?_
        refine lv_if_eq (tgt := 112) hx hb dX6_does_102 (by decide) (fun hc => ?_) (fun hc => ?_)
        · have hp := hp.1 hc
          refine lv_iload hx hb dX6_does_112 (lv_at hl 4 rfl) ?_
          exact hret () dX6_does_114 hp hP hD hS
        · have hp := hp.2 hc
          refine lv_iconst (v := 2) hx hb dX6_does_105 (by decide) ?_
          refine lv_iload hx hb dX6_does_106 (lv_at hl 4 rfl) ?_
          refine lv_imul hx hb dX6_does_108 ?_
          refine lv_goto (tgt := 114) hx hb dX6_does_109 (by decide) ?_
          exact hret () dX6_does_114 hp hP hD hS
      · have hp := hp.2.2.2.2.1 hsv
        refine lv_tableIn (off := 61) (tgt := 115) hx hb dX6_does_54 (by omega) (by omega) (by rw [hsv]; rfl) (by decide) ?_
        refine lv_iload hx hb dX6_does_115 (lv_at hl 0 rfl) ?_
        refine lv_if_eq (tgt := 124) hx hb dX6_does_117 (by decide) (fun hc => ?_) (fun hc => ?_)
        · have hp := hp.1 hc
          refine lv_iload hx hb dX6_does_124 (lv_at hl 4 rfl) ?_
          refine lv_iconst (v := 1) hx hb dX6_does_126 (by decide) ?_
          refine lv_iadd hx hb dX6_does_127 ?_
          exact hret () dX6_does_128 hp hP hD hS
        · have hp := hp.2 hc
          refine lv_iconst (v := 1) hx hb dX6_does_120 (by decide) ?_
          refine lv_goto (tgt := 128) hx hb dX6_does_121 (by decide) ?_
          exact hret () dX6_does_128 hp hP hD hS
      · have hp := hp.2.2.2.2.2 hsv
        refine lv_tableIn (off := 75) (tgt := 129) hx hb dX6_does_54 (by omega) (by omega) (by rw [hsv]; rfl) (by decide) ?_
        refine lv_iload hx hb dX6_does_129 (lv_at hl 0 rfl) ?_
        refine lv_if_eq (tgt := 136) hx hb dX6_does_131 (by decide) (fun hc => ?_) (fun hc => ?_)
        · have hp := hp.1 hc
          refine lv_aload_n hx hb dX6_does_136 rfl (lv_at hl 1 rfl) ?_
          refine va_get (D := D) (ci := 6) (v := .ref a_t_land) (C := RX6) (T := TX6) (N := 6) hx hb hts in_X6_does_X6 hown hK hP 0 rfl rfl 2 (by decide) (hts _ m_X6_does_f9) (fun _ h9 => h9) rfl dX6_does_137 ?_
          refine lv_iload_n hx hb dX6_does_140 rfl (lv_at hl 3 rfl) ?_
          obtain ⟨hi, hp⟩ := hp
          refine va_iald (D := D) hx hb hK hP 5 0 rfl rfl hi dX6_does_141 ?_
          refine lv_bipush (v := 10) hx hb dX6_does_142 (by decide) ?_
          refine lv_icmp_lt (tgt := 157) hx hb dX6_does_144 (by decide) (fun hc => ?_) (fun hc => ?_)
          · have hp := hp.1 hc
            refine lv_iload hx hb dX6_does_157 (lv_at hl 4 rfl) ?_
            exact hret () dX6_does_159 hp hP hD hS
          · have hp := hp.2 hc
            refine lv_iload hx hb dX6_does_147 (lv_at hl 4 rfl) ?_
            refine lv_iconst (v := 2) hx hb dX6_does_149 (by decide) ?_
            refine lv_icmp_ge (tgt := 157) hx hb dX6_does_150 (by decide) (fun hc => ?_) (fun hc => ?_)
            · have hp := hp.1 hc
              refine lv_iload hx hb dX6_does_157 (lv_at hl 4 rfl) ?_
              exact hret () dX6_does_159 hp hP hD hS
            · have hp := hp.2 hc
              refine lv_iconst (v := 2) hx hb dX6_does_153 (by decide) ?_
              refine lv_goto (tgt := 159) hx hb dX6_does_154 (by decide) ?_
              exact hret () dX6_does_159 hp hP hD hS
        · have hp := hp.2 hc
          refine lv_iconst (v := 0) hx hb dX6_does_134 (by decide) ?_
          exact hret () dX6_does_135 hp hP hD hS
  unfold P_X6_does at hp
  refine lv_aload_n hx hb dX6_does_0 rfl (lv_at hl 0 rfl) ?_
  refine va_get (D := D) (ci := 6) (v := .int t_days) (C := RX6) (T := TX6) (N := 6) hx hb hts in_X6_does_X6 hown hK hP 0 rfl rfl 0 (by decide) (hts _ m_X6_does_f24) (fun _ h9 => h9) rfl dX6_does_1 ?_
  refine lv_bipush (v := 7) hx hb dX6_does_4 (by decide) ?_
  obtain ⟨hz, hp⟩ := hp
  refine lv_irem hx hb dX6_does_6 hz ?_
  refine lv_bipush (v := 6) hx hb dX6_does_7 (by decide) ?_
  refine lv_icmp_ne (tgt := 14) hx hb dX6_does_9 (by decide) (fun hc => ?_) (fun hc => ?_)
  · have hp := hp.1 hc
    refine lv_aload_n hx hb dX6_does_14 rfl (lv_at hl 1 rfl) ?_
    refine va_get (D := D) (ci := 1) (v := .ref a_p1_owners) (C := RX1) (T := TX1) (N := 9) hx hb hts in_X6_does_X1 hown hK hP 1 rfl rfl 6 (by decide) (hts _ m_X6_does_f60) (fun _ h9 => h9) rfl dX6_does_15 ?_
    refine lv_iload_n hx hb dX6_does_18 rfl (lv_at hl 2 rfl) ?_
    obtain ⟨hi, hp⟩ := hp
    refine va_iald (D := D) hx hb hK hP 2 0 rfl rfl hi dX6_does_19 ?_
    refine lv_istore_n (lv' := [(3, .int (p1_owners x2.toNatClampNeg)), (0, .ref a_t), (1, .ref a_p1), (2, .int x2)]) hx hb dX6_does_20 rfl hl (by decide) rfl (fun ls hl => ?_)
    refine lv_aload_n hx hb dX6_does_21 rfl (lv_at hl 1 rfl) ?_
    refine va_get (D := D) (ci := 6) (v := .ref a_t_shares) (C := RX6) (T := TX6) (N := 6) hx hb hts in_X6_does_X6 hown hK hP 0 rfl rfl 4 (by decide) (hts _ m_X6_does_f18) (fun _ h9 => h9) rfl dX6_does_22 ?_
    refine lv_iload_n hx hb dX6_does_25 rfl (lv_at hl 3 rfl) ?_
    obtain ⟨hi, hp⟩ := hp
    refine va_iald (D := D) hx hb hK hP 3 0 rfl rfl hi dX6_does_26 ?_
    refine lv_istore (lv' := [(4, .int (t_shares x2.toNatClampNeg)), (3, .int (p1_owners x2.toNatClampNeg)), (0, .ref a_t), (1, .ref a_p1), (2, .int x2)]) hx hb dX6_does_27 hl (by decide) rfl (fun ls hl => ?_)
    refine lv_aload_n hx hb dX6_does_29 rfl (lv_at hl 2 rfl) ?_
    refine va_get (D := D) (ci := 6) (v := .int t_sickBits) (C := RX6) (T := TX6) (N := 6) hx hb hts in_X6_does_X6 hown hK hP 0 rfl rfl 1 (by decide) (hts _ m_X6_does_f28) (fun _ h9 => h9) rfl dX6_does_30 ?_
    refine lv_iload_n hx hb dX6_does_33 rfl (lv_at hl 1 rfl) ?_
    refine lv_ishr hx hb dX6_does_34 ?_
    refine lv_iconst (v := 1) hx hb dX6_does_35 (by decide) ?_
    refine lv_iand hx hb dX6_does_36 ?_
    refine lv_iconst (v := 1) hx hb dX6_does_37 (by decide) ?_
    refine lv_icmp_ne (tgt := 45) hx hb dX6_does_38 (by decide) (fun hc => ?_) (fun hc => ?_)
    · have hp := hp.1 hc
      refine lv_iconst (v := 0) hx hb dX6_does_45 (by decide) ?_
      exact J46 (p1_owners x2.toNatClampNeg) (t_shares x2.toNatClampNeg) (0 : Int32) _ _ hP hD hS hp _ (lv_sub hl [2, 3, 1, 0] rfl)
    · have hp := hp.2 hc
      refine lv_iconst (v := 1) hx hb dX6_does_41 (by decide) ?_
      refine lv_goto (tgt := 46) hx hb dX6_does_42 (by decide) ?_
      exact J46 (p1_owners x2.toNatClampNeg) (t_shares x2.toNatClampNeg) (1 : Int32) _ _ hP hD hS hp _ (lv_sub hl [2, 3, 1, 0] rfl)
  · have hp := hp.2 hc
    refine lv_iconst (v := 0) hx hb dX6_does_12 (by decide) ?_
    exact hret () dX6_does_13 hp hP hD hS
theorem c_X6_does (l : Launch) (D : va_G) (cI cC cB cS : ClassId) (a_t a_t_land a_t_places a_t_shares a_t_did a_p1 a_p1_kinds a_p1_hours a_p1_lands a_p1_owners a_p1_treeWalls a_p1_treePlaces : Nat) (t_days : Int32) (t_sickBits : Int32) (p1_families : Int32) (p1_walls : Int32) (p1_trees : Int32) (p1_owners : Nat → Int32) (t_shares : Nat → Int32) (p1_kinds : Nat → Int32) (t_land : Nat → Int32) (x2 : Int32) {post : Int32 → Prop} (hp : P_X6_does x2 t_days t_sickBits p1_owners t_shares p1_kinds t_land post) : CtrI l yX6_does wsX6_does rmX6_does D (tyL cI cC cB cS) [.ref a_t, .ref a_p1, .int x2] (wX6_does cI cC cB cS a_t a_t_land a_t_places a_t_shares a_t_did a_p1 a_p1_kinds a_p1_hours a_p1_lands a_p1_owners a_p1_treeWalls a_p1_treePlaces t_days t_sickBits p1_families p1_walls p1_trees p1_owners t_shares p1_kinds t_land) (fun r (u : Unit) => post r ) (fun u => (wX6_does cI cC cB cS a_t a_t_land a_t_places a_t_shares a_t_did a_p1 a_p1_kinds a_p1_hours a_p1_lands a_p1_owners a_p1_treeWalls a_p1_treePlaces t_days t_sickBits p1_families p1_walls p1_trees p1_owners t_shares p1_kinds t_land)) 0 0 :=
  ctrI_of (cc := cX6_does) (maxL := 6) (by decide) rfl (Nat.le_of_ble_eq_true rfl) (fun X hret _ _ _ hP hD hS hl => k_X6_does l D cI cC cB cS a_t a_t_land a_t_places a_t_shares a_t_did a_p1 a_p1_kinds a_p1_hours a_p1_lands a_p1_owners a_p1_treeWalls a_p1_treePlaces t_days t_sickBits p1_families p1_walls p1_trees p1_owners t_shares p1_kinds t_land x2 hp X hret hP hD hS hl)
-- losingSide(LLeaningWalls$County;III)I
abbrev rmX6_losingSide : Room := { frames := 0, cells := 0, slots := 0, locals := 0 }
abbrev wX6_losingSide (cI cC cB cS : ClassId) (a_t a_t_land a_t_places a_t_shares a_t_did a_p1 a_p1_kinds a_p1_hours a_p1_lands a_p1_owners a_p1_treeWalls a_p1_treePlaces : Nat) (t_days : Int32) (t_sickBits : Int32) (p1_families : Int32) (p1_walls : Int32) (p1_trees : Int32) (p1_owners : Nat → Int32) (t_land : Nat → Int32) : va_W := [(a_t, .inr (6, [.int t_days, .int t_sickBits, .ref a_t_land, .ref a_t_places, .ref a_t_shares, .ref a_t_did])), (a_p1, .inr (1, [.int p1_families, .int p1_walls, .int p1_trees, .ref a_p1_kinds, .ref a_p1_hours, .ref a_p1_lands, .ref a_p1_owners, .ref a_p1_treeWalls, .ref a_p1_treePlaces])), (a_p1_owners, .inl (cI, 18, .inl p1_owners)), (a_t_land, .inl (cI, 6, .inl t_land))]
theorem hNm_X6_losingSide : hNm yX6_losingSide 4 := by decide +kernel
theorem m_X6_losingSide_f9 : Cond.fieldLink RX6 9 "LeaningWalls$Stand" "land" "[I" ∈ wsX6_losingSide := by decide +kernel
theorem in_X6_losingSide_X6 : ∀ w ∈ wsX60, w ∈ wsX6_losingSide := by decide +kernel
theorem m_X6_losingSide_f60 : Cond.fieldLink RX6 60 "LeaningWalls$County" "owners" "[I" ∈ wsX6_losingSide := by decide +kernel
theorem in_X6_losingSide_X1 : ∀ w ∈ wsX10, w ∈ wsX6_losingSide := by decide +kernel
def P_X6_losingSide_b26 (p1_owners : Nat → Int32) (t_land : Nat → Int32)  (post : Int32 → Prop) (y0 : Int32) : Prop := vp_in y0 18 ∧ (vp_in (p1_owners y0.toNatClampNeg) 6 ∧ (((t_land (p1_owners y0.toNatClampNeg).toNatClampNeg) ≤ 0 → post (-4 : Int32)) ∧ (¬ (t_land (p1_owners y0.toNatClampNeg).toNatClampNeg) ≤ 0 → post y0)))
def P_X6_losingSide (x2 : Int32) (x3 : Int32) (x4 : Int32) (p1_owners : Nat → Int32) (t_land : Nat → Int32) (post : Int32 → Prop) : Prop := (¬ x3 = x4 → (x4 ≤ x3 → P_X6_losingSide_b26 p1_owners t_land post (((2 : Int32) * x2) + (1 : Int32))) ∧ (¬ x4 ≤ x3 → P_X6_losingSide_b26 p1_owners t_land post ((2 : Int32) * x2))) ∧ (x3 = x4 → post (-4 : Int32))
set_option maxHeartbeats 4000000 in
set_option maxRecDepth 100000 in
theorem k_X6_losingSide (l : Launch) (D : va_G) (cI cC cB cS : ClassId) (a_t a_t_land a_t_places a_t_shares a_t_did a_p1 a_p1_kinds a_p1_hours a_p1_lands a_p1_owners a_p1_treeWalls a_p1_treePlaces : Nat) (t_days : Int32) (t_sickBits : Int32) (p1_families : Int32) (p1_walls : Int32) (p1_trees : Int32) (p1_owners : Nat → Int32) (t_land : Nat → Int32) (x2 : Int32) (x3 : Int32) (x4 : Int32) {post : Int32 → Prop} (hp : P_X6_losingSide x2 x3 x4 p1_owners t_land post) {p : Program} {e : Env} {s : State} {m : MethodId} {args : Array Value} {below : List Frame} {meth : Method} {c : Code} {Q : State → Prop} {A : Nat → Prop} {H0 : Heap} (X : WCtx p s m args c cX6_losingSide 6 wsX6_losingSide RX6 H0 A D (tyL cI cC cB cS)) (hret : ∀ {pc : Nat} {ls : Array Slot} {H : Heap} {locs : List Loc} {r : Int32} (u : Unit), decode cX6_losingSide pc = .ok (.ireturn, 1) → post r  → va_P D vwCl (wX6_losingSide cI cC cB cS a_t a_t_land a_t_places a_t_shares a_t_did a_p1 a_p1_kinds a_p1_hours a_p1_lands a_p1_owners a_p1_treeWalls a_p1_treePlaces t_days t_sickBits p1_families p1_walls p1_trees p1_owners t_land) H → va_D A (wX6_losingSide cI cC cB cS a_t a_t_land a_t_places a_t_shares a_t_did a_p1 a_p1_kinds a_p1_hours a_p1_lands a_p1_owners a_p1_treeWalls a_p1_treePlaces t_days t_sickBits p1_families p1_walls p1_trees p1_owners t_land) → va_S A H0 H locs → W p l e rmX6_losingSide s m args below meth c H locs 0 0 Q (F0 m pc ls [.int r])) {H : Heap} {locs : List Loc} {ls : Array Slot} (hP : va_P D vwCl (wX6_losingSide cI cC cB cS a_t a_t_land a_t_places a_t_shares a_t_did a_p1 a_p1_kinds a_p1_hours a_p1_lands a_p1_owners a_p1_treeWalls a_p1_treePlaces t_days t_sickBits p1_families p1_walls p1_trees p1_owners t_land) H) (hD : va_D A (wX6_losingSide cI cC cB cS a_t a_t_land a_t_places a_t_shares a_t_did a_p1 a_p1_kinds a_p1_hours a_p1_lands a_p1_owners a_p1_treeWalls a_p1_treePlaces t_days t_sickBits p1_families p1_walls p1_trees p1_owners t_land)) (hS : va_S A H0 H locs) (hl : lv_has ls 6 [(0, .ref a_t), (1, .ref a_p1), (2, .int x2), (3, .int x3), (4, .int x4)]) : W p l e rmX6_losingSide s m args below meth c H locs 0 0 Q (F0 m 0 ls []) := by
  obtain ⟨⟨hx, hb, hml, hown, hts⟩, hA, hK, hN⟩ := id X
  have J26 : ∀ (y0 : Int32)  (H : Heap) (locs : List Loc), va_P D vwCl (wX6_losingSide cI cC cB cS a_t a_t_land a_t_places a_t_shares a_t_did a_p1 a_p1_kinds a_p1_hours a_p1_lands a_p1_owners a_p1_treeWalls a_p1_treePlaces t_days t_sickBits p1_families p1_walls p1_trees p1_owners t_land) H → va_D A (wX6_losingSide cI cC cB cS a_t a_t_land a_t_places a_t_shares a_t_did a_p1 a_p1_kinds a_p1_hours a_p1_lands a_p1_owners a_p1_treeWalls a_p1_treePlaces t_days t_sickBits p1_families p1_walls p1_trees p1_owners t_land) → va_S A H0 H locs → P_X6_losingSide_b26 p1_owners t_land post y0 → ∀ ls : Array Slot, lv_has ls 6 [(0, .ref a_t), (1, .ref a_p1)] → W p l e rmX6_losingSide s m args below meth c H locs 0 0 Q (F0 m 26 ls [.int y0]) := by
    intro y0 H locs hP hD hS hp ls hl
    unfold P_X6_losingSide_b26 at hp
    refine lv_istore (lv' := [(5, .int y0), (0, .ref a_t), (1, .ref a_p1)]) hx hb dX6_losingSide_26 hl (by decide) rfl (fun ls hl => ?_)
    refine lv_aload_n hx hb dX6_losingSide_28 rfl (lv_at hl 1 rfl) ?_
    refine va_get (D := D) (ci := 6) (v := .ref a_t_land) (C := RX6) (T := TX6) (N := 6) hx hb hts in_X6_losingSide_X6 hown hK hP 0 rfl rfl 2 (by decide) (hts _ m_X6_losingSide_f9) (fun _ h9 => h9) rfl dX6_losingSide_29 ?_
    refine lv_aload_n hx hb dX6_losingSide_32 rfl (lv_at hl 2 rfl) ?_
    refine va_get (D := D) (ci := 1) (v := .ref a_p1_owners) (C := RX1) (T := TX1) (N := 9) hx hb hts in_X6_losingSide_X1 hown hK hP 1 rfl rfl 6 (by decide) (hts _ m_X6_losingSide_f60) (fun _ h9 => h9) rfl dX6_losingSide_33 ?_
    refine lv_iload hx hb dX6_losingSide_36 (lv_at hl 0 rfl) ?_
    obtain ⟨hi, hp⟩ := hp
    refine va_iald (D := D) hx hb hK hP 2 0 rfl rfl hi dX6_losingSide_38 ?_
    obtain ⟨hi, hp⟩ := hp
    refine va_iald (D := D) hx hb hK hP 3 0 rfl rfl hi dX6_losingSide_39 ?_
    refine lv_if_le (tgt := 48) hx hb dX6_losingSide_40 (by decide) (fun hc => ?_) (fun hc => ?_)
    · have hp := hp.1 hc
      refine lv_bipush (v := -4) hx hb dX6_losingSide_48 (by decide) ?_
      exact hret () dX6_losingSide_50 hp hP hD hS
    · have hp := hp.2 hc
      refine lv_iload hx hb dX6_losingSide_43 (lv_at hl 0 rfl) ?_
      refine lv_goto (tgt := 50) hx hb dX6_losingSide_45 (by decide) ?_
      exact hret () dX6_losingSide_50 hp hP hD hS
  unfold P_X6_losingSide at hp
  refine lv_iload_n hx hb dX6_losingSide_0 rfl (lv_at hl 3 rfl) ?_
  refine lv_iload hx hb dX6_losingSide_1 (lv_at hl 4 rfl) ?_
  refine lv_icmp_ne (tgt := 9) hx hb dX6_losingSide_3 (by decide) (fun hc => ?_) (fun hc => ?_)
  · have hp := hp.1 hc
    refine lv_iload_n hx hb dX6_losingSide_9 rfl (lv_at hl 3 rfl) ?_
    refine lv_iload hx hb dX6_losingSide_10 (lv_at hl 4 rfl) ?_
    refine lv_icmp_ge (tgt := 21) hx hb dX6_losingSide_12 (by decide) (fun hc => ?_) (fun hc => ?_)
    · have hp := hp.1 hc
      refine lv_iconst (v := 2) hx hb dX6_losingSide_21 (by decide) ?_
      refine lv_iload_n hx hb dX6_losingSide_22 rfl (lv_at hl 2 rfl) ?_
      refine lv_imul hx hb dX6_losingSide_23 ?_
      refine lv_iconst (v := 1) hx hb dX6_losingSide_24 (by decide) ?_
      refine lv_iadd hx hb dX6_losingSide_25 ?_
      exact J26 (((2 : Int32) * x2) + (1 : Int32)) _ _ hP hD hS hp _ (lv_sub hl [0, 1] rfl)
    · have hp := hp.2 hc
      refine lv_iconst (v := 2) hx hb dX6_losingSide_15 (by decide) ?_
      refine lv_iload_n hx hb dX6_losingSide_16 rfl (lv_at hl 2 rfl) ?_
      refine lv_imul hx hb dX6_losingSide_17 ?_
      refine lv_goto (tgt := 26) hx hb dX6_losingSide_18 (by decide) ?_
      exact J26 ((2 : Int32) * x2) _ _ hP hD hS hp _ (lv_sub hl [0, 1] rfl)
  · have hp := hp.2 hc
    refine lv_bipush (v := -4) hx hb dX6_losingSide_6 (by decide) ?_
    exact hret () dX6_losingSide_8 hp hP hD hS
theorem c_X6_losingSide (l : Launch) (D : va_G) (cI cC cB cS : ClassId) (a_t a_t_land a_t_places a_t_shares a_t_did a_p1 a_p1_kinds a_p1_hours a_p1_lands a_p1_owners a_p1_treeWalls a_p1_treePlaces : Nat) (t_days : Int32) (t_sickBits : Int32) (p1_families : Int32) (p1_walls : Int32) (p1_trees : Int32) (p1_owners : Nat → Int32) (t_land : Nat → Int32) (x2 : Int32) (x3 : Int32) (x4 : Int32) {post : Int32 → Prop} (hp : P_X6_losingSide x2 x3 x4 p1_owners t_land post) : CtrI l yX6_losingSide wsX6_losingSide rmX6_losingSide D (tyL cI cC cB cS) [.ref a_t, .ref a_p1, .int x2, .int x3, .int x4] (wX6_losingSide cI cC cB cS a_t a_t_land a_t_places a_t_shares a_t_did a_p1 a_p1_kinds a_p1_hours a_p1_lands a_p1_owners a_p1_treeWalls a_p1_treePlaces t_days t_sickBits p1_families p1_walls p1_trees p1_owners t_land) (fun r (u : Unit) => post r ) (fun u => (wX6_losingSide cI cC cB cS a_t a_t_land a_t_places a_t_shares a_t_did a_p1 a_p1_kinds a_p1_hours a_p1_lands a_p1_owners a_p1_treeWalls a_p1_treePlaces t_days t_sickBits p1_families p1_walls p1_trees p1_owners t_land)) 0 0 :=
  ctrI_of (cc := cX6_losingSide) (maxL := 6) (by decide) rfl (Nat.le_of_ble_eq_true rfl) (fun X hret _ _ _ hP hD hS hl => k_X6_losingSide l D cI cC cB cS a_t a_t_land a_t_places a_t_shares a_t_did a_p1 a_p1_kinds a_p1_hours a_p1_lands a_p1_owners a_p1_treeWalls a_p1_treePlaces t_days t_sickBits p1_families p1_walls p1_trees p1_owners t_land x2 x3 x4 hp X hret hP hD hS hl)
-- goDay(LLeaningWalls$County;I)I
abbrev rmX6_goDay : Room := { frames := 1, cells := 0, slots := 0, locals := 25 }
abbrev wX6_goDay (cI cC cB cS : ClassId) (a_p1 a_p1_kinds a_p1_hours a_p1_lands a_p1_owners a_p1_treeWalls a_p1_treePlaces a_t a_t_land a_t_places a_t_shares a_t_did : Nat) (p1_families : Int32) (p1_walls : Int32) (p1_trees : Int32) (p1_owners : Nat → Int32) (t_days : Int32) (t_sickBits : Int32) (t_did : Nat → Int32) (t_shares : Nat → Int32) (p1_kinds : Nat → Int32) (t_land : Nat → Int32) (t_places : Nat → Int32) : va_W := [(a_p1, .inr (1, [.int p1_families, .int p1_walls, .int p1_trees, .ref a_p1_kinds, .ref a_p1_hours, .ref a_p1_lands, .ref a_p1_owners, .ref a_p1_treeWalls, .ref a_p1_treePlaces])), (a_p1_owners, .inl (cI, 18, .inl p1_owners)), (a_t, .inr (6, [.int t_days, .int t_sickBits, .ref a_t_land, .ref a_t_places, .ref a_t_shares, .ref a_t_did])), (a_t_did, .inl (cI, 18, .inl t_did)), (a_t_shares, .inl (cI, 18, .inl t_shares)), (a_p1_kinds, .inl (cI, 6, .inl p1_kinds)), (a_t_land, .inl (cI, 6, .inl t_land)), (a_t_places, .inl (cI, 9, .inl t_places))]
theorem hNm_X6_goDay : hNm yX6_goDay 2 := by decide +kernel
theorem m_X6_goDay_f76 : Cond.fieldLink RX6 76 "LeaningWalls$County" "walls" "I" ∈ wsX6_goDay := by decide +kernel
theorem in_X6_goDay_X1 : ∀ w ∈ wsX10, w ∈ wsX6_goDay := by decide +kernel
theorem m_X6_goDay_f21 : Cond.fieldLink RX6 21 "LeaningWalls$Stand" "did" "[I" ∈ wsX6_goDay := by decide +kernel
theorem in_X6_goDay_X6 : ∀ w ∈ wsX60, w ∈ wsX6_goDay := by decide +kernel
theorem m_X6_goDay_f9 : Cond.fieldLink RX6 9 "LeaningWalls$Stand" "land" "[I" ∈ wsX6_goDay := by decide +kernel
theorem m_X6_goDay_f60 : Cond.fieldLink RX6 60 "LeaningWalls$County" "owners" "[I" ∈ wsX6_goDay := by decide +kernel
theorem m_X6_goDay_f15 : Cond.fieldLink RX6 15 "LeaningWalls$Stand" "places" "[I" ∈ wsX6_goDay := by decide +kernel
theorem m_X6_goDay_f24 : Cond.fieldLink RX6 24 "LeaningWalls$Stand" "days" "I" ∈ wsX6_goDay := by decide +kernel
def P_X6_goDay_b179 (p1_walls : Int32) (p1_owners : Nat → Int32) (t_sickBits : Int32) (t_shares : Nat → Int32) (p1_kinds : Nat → Int32) (k73 : Int32 → Int32 → Int32 → (Nat → Int32) → (Nat → Int32) → (Nat → Int32) → Prop) (post : Int32 → Int32 → (Nat → Int32) → (Nat → Int32) → (Nat → Int32) → Prop) (x3 : Int32) (x4 : Int32) (t_days : Int32) (t_did : Nat → Int32) (t_land : Nat → Int32) (t_places : Nat → Int32) : Prop := k73 x3 (x4 + (1 : Int32)) t_days t_did t_land t_places
def P_X6_goDay_b174 (p1_walls : Int32) (p1_owners : Nat → Int32) (t_sickBits : Int32) (t_shares : Nat → Int32) (p1_kinds : Nat → Int32) (k73 : Int32 → Int32 → Int32 → (Nat → Int32) → (Nat → Int32) → (Nat → Int32) → Prop) (post : Int32 → Int32 → (Nat → Int32) → (Nat → Int32) → (Nat → Int32) → Prop) (x3 : Int32) (x4 : Int32) (y1 : Int32) (y2 : Int32) (y3 : Int32) (t_days : Int32) (t_did : Nat → Int32) (t_land : Nat → Int32) (t_places : Nat → Int32) : Prop := vp_in y1 9 ∧ (P_X6_goDay_b179 p1_walls p1_owners t_sickBits t_shares p1_kinds k73 post (x3 + (1 : Int32)) x4 t_days t_did t_land (upd t_places y1.toNatClampNeg (y2 + y3)))
def P_X6_goDay_L73 (p1_walls : Int32) (p1_owners : Nat → Int32) (t_sickBits : Int32) (t_shares : Nat → Int32) (p1_kinds : Nat → Int32)  (post : Int32 → Int32 → (Nat → Int32) → (Nat → Int32) → (Nat → Int32) → Prop) : Nat → Int32 → Int32 → Int32 → (Nat → Int32) → (Nat → Int32) → (Nat → Int32) → Prop
  | 0, _, _, _, _, _, _ => False
  | n73 + 1, x3, x4, t_days, t_did, t_land, t_places => (p1_walls ≤ x4 → post x3 t_days t_did t_land t_places) ∧ (¬ p1_walls ≤ x4 → vp_in ((2 : Int32) * x4) 18 ∧ (vp_in (((2 : Int32) * x4) + (1 : Int32)) 18 ∧ (P_X6_losingSide x4 (t_did ((2 : Int32) * x4).toNatClampNeg) (t_did (((2 : Int32) * x4) + (1 : Int32)).toNatClampNeg) p1_owners t_land (fun r106 => (r106 = (-4 : Int32) → P_X6_goDay_b179 p1_walls p1_owners t_sickBits t_shares p1_kinds (P_X6_goDay_L73 p1_walls p1_owners t_sickBits t_shares p1_kinds post n73) post x3 x4 t_days t_did t_land t_places) ∧ (¬ r106 = (-4 : Int32) → vp_in r106 18 ∧ (vp_in (p1_owners r106.toNatClampNeg) 6 ∧ (vp_in (p1_owners r106.toNatClampNeg) 6 ∧ (vp_in (r106 ^^^ (1 : Int32)) 18 ∧ (vp_in (p1_owners (r106 ^^^ (1 : Int32)).toNatClampNeg) 6 ∧ (vp_in (p1_owners (r106 ^^^ (1 : Int32)).toNatClampNeg) 6 ∧ (vp_in x4 9 ∧ ((¬ r106 = ((2 : Int32) * x4) → P_X6_goDay_b174 p1_walls p1_owners t_sickBits t_shares p1_kinds (P_X6_goDay_L73 p1_walls p1_owners t_sickBits t_shares p1_kinds post n73) post x3 x4 x4 (t_places x4.toNatClampNeg) (1 : Int32) t_days t_did (upd (upd t_land (p1_owners r106.toNatClampNeg).toNatClampNeg ((t_land (p1_owners r106.toNatClampNeg).toNatClampNeg) - (1 : Int32))) (p1_owners (r106 ^^^ (1 : Int32)).toNatClampNeg).toNatClampNeg (((upd t_land (p1_owners r106.toNatClampNeg).toNatClampNeg ((t_land (p1_owners r106.toNatClampNeg).toNatClampNeg) - (1 : Int32))) (p1_owners (r106 ^^^ (1 : Int32)).toNatClampNeg).toNatClampNeg) + (1 : Int32))) t_places) ∧ (r106 = ((2 : Int32) * x4) → P_X6_goDay_b174 p1_walls p1_owners t_sickBits t_shares p1_kinds (P_X6_goDay_L73 p1_walls p1_owners t_sickBits t_shares p1_kinds post n73) post x3 x4 x4 (t_places x4.toNatClampNeg) (-1 : Int32) t_days t_did (upd (upd t_land (p1_owners r106.toNatClampNeg).toNatClampNeg ((t_land (p1_owners r106.toNatClampNeg).toNatClampNeg) - (1 : Int32))) (p1_owners (r106 ^^^ (1 : Int32)).toNatClampNeg).toNatClampNeg (((upd t_land (p1_owners r106.toNatClampNeg).toNatClampNeg ((t_land (p1_owners r106.toNatClampNeg).toNatClampNeg) - (1 : Int32))) (p1_owners (r106 ^^^ (1 : Int32)).toNatClampNeg).toNatClampNeg) + (1 : Int32))) t_places)))))))))))))
def P_X6_goDay_b51 (p1_walls : Int32) (p1_owners : Nat → Int32) (t_sickBits : Int32) (t_shares : Nat → Int32) (p1_kinds : Nat → Int32) (k2 : Int32 → Int32 → Int32 → (Nat → Int32) → (Nat → Int32) → (Nat → Int32) → Prop) (post : Int32 → Int32 → (Nat → Int32) → (Nat → Int32) → (Nat → Int32) → Prop) (x2 : Int32) (x3 : Int32) (y1 : Int32) (y2 : Int32) (t_days : Int32) (t_did : Nat → Int32) (t_land : Nat → Int32) (t_places : Nat → Int32) : Prop := vp_in y1 18 ∧ (k2 x2 (x3 + (1 : Int32)) t_days (upd t_did y1.toNatClampNeg y2) t_land t_places)
def P_X6_goDay_b29 (p1_walls : Int32) (p1_owners : Nat → Int32) (t_sickBits : Int32) (t_shares : Nat → Int32) (p1_kinds : Nat → Int32) (k2 : Int32 → Int32 → Int32 → (Nat → Int32) → (Nat → Int32) → (Nat → Int32) → Prop) (post : Int32 → Int32 → (Nat → Int32) → (Nat → Int32) → (Nat → Int32) → Prop) (x2 : Int32) (x3 : Int32) (y0 : Int32) (t_days : Int32) (t_did : Nat → Int32) (t_land : Nat → Int32) (t_places : Nat → Int32) : Prop := (y0 = 0 → P_X6_does x3 t_days t_sickBits p1_owners t_shares p1_kinds t_land (fun r48 => P_X6_goDay_b51 p1_walls p1_owners t_sickBits t_shares p1_kinds k2 post x2 x3 x3 r48 t_days t_did t_land t_places)) ∧ (¬ y0 = 0 → P_X6_goDay_b51 p1_walls p1_owners t_sickBits t_shares p1_kinds k2 post x2 x3 x3 (0 : Int32) t_days t_did t_land t_places)
def P_X6_goDay_L2 (p1_walls : Int32) (p1_owners : Nat → Int32) (t_sickBits : Int32) (t_shares : Nat → Int32) (p1_kinds : Nat → Int32)  (post : Int32 → Int32 → (Nat → Int32) → (Nat → Int32) → (Nat → Int32) → Prop) : Nat → Int32 → Int32 → Int32 → (Nat → Int32) → (Nat → Int32) → (Nat → Int32) → Prop
  | 0, _, _, _, _, _, _ => False
  | n2 + 1, x2, x3, t_days, t_did, t_land, t_places => P_X1_sides p1_walls (fun r4 => (r4 ≤ x3 → ∃ n73 : Nat, P_X6_goDay_L73 p1_walls p1_owners t_sickBits t_shares p1_kinds post n73 (0 : Int32) (0 : Int32) (t_days + (1 : Int32)) t_did t_land t_places) ∧ (¬ r4 ≤ x3 → vp_in x3 18 ∧ ((¬ ((x2 >>> ((p1_owners x3.toNatClampNeg) &&& 31)) &&& (1 : Int32)) = (1 : Int32) → P_X6_goDay_b29 p1_walls p1_owners t_sickBits t_shares p1_kinds (P_X6_goDay_L2 p1_walls p1_owners t_sickBits t_shares p1_kinds post n2) post x2 x3 (0 : Int32) t_days t_did t_land t_places) ∧ (((x2 >>> ((p1_owners x3.toNatClampNeg) &&& 31)) &&& (1 : Int32)) = (1 : Int32) → P_X6_goDay_b29 p1_walls p1_owners t_sickBits t_shares p1_kinds (P_X6_goDay_L2 p1_walls p1_owners t_sickBits t_shares p1_kinds post n2) post x2 x3 (1 : Int32) t_days t_did t_land t_places))))
def P_X6_goDay (x2 : Int32) (p1_walls : Int32) (p1_owners : Nat → Int32) (t_days : Int32) (t_sickBits : Int32) (t_did : Nat → Int32) (t_shares : Nat → Int32) (p1_kinds : Nat → Int32) (t_land : Nat → Int32) (t_places : Nat → Int32) (post : Int32 → Int32 → (Nat → Int32) → (Nat → Int32) → (Nat → Int32) → Prop) : Prop := ∃ n2 : Nat, P_X6_goDay_L2 p1_walls p1_owners t_sickBits t_shares p1_kinds post n2 x2 (0 : Int32) t_days t_did t_land t_places
set_option maxHeartbeats 4000000 in
set_option maxRecDepth 100000 in
theorem k_X6_goDay (l : Launch) (D : va_G) (cI cC cB cS : ClassId) (a_p1 a_p1_kinds a_p1_hours a_p1_lands a_p1_owners a_p1_treeWalls a_p1_treePlaces a_t a_t_land a_t_places a_t_shares a_t_did : Nat) (p1_families : Int32) (p1_walls : Int32) (p1_trees : Int32) (p1_owners : Nat → Int32) (t_days : Int32) (t_sickBits : Int32) (t_did : Nat → Int32) (t_shares : Nat → Int32) (p1_kinds : Nat → Int32) (t_land : Nat → Int32) (t_places : Nat → Int32) (x2 : Int32) {post : Int32 → Int32 → (Nat → Int32) → (Nat → Int32) → (Nat → Int32) → Prop} (hp : P_X6_goDay x2 p1_walls p1_owners t_days t_sickBits t_did t_shares p1_kinds t_land t_places post) {p : Program} {e : Env} {s : State} {m : MethodId} {args : Array Value} {below : List Frame} {meth : Method} {c : Code} {Q : State → Prop} {A : Nat → Prop} {H0 : Heap} (X : WCtx p s m args c cX6_goDay 6 wsX6_goDay RX6 H0 A D (tyL cI cC cB cS)) (hret : ∀ {pc : Nat} {ls : Array Slot} {H : Heap} {locs : List Loc} {r : Int32} (u : Int32 × (Nat → Int32) × (Nat → Int32) × (Nat → Int32)), decode cX6_goDay pc = .ok (.ireturn, 1) → post r u.1 u.2.1 u.2.2.1 u.2.2.2 → va_P D vwCl (wX6_goDay cI cC cB cS a_p1 a_p1_kinds a_p1_hours a_p1_lands a_p1_owners a_p1_treeWalls a_p1_treePlaces a_t a_t_land a_t_places a_t_shares a_t_did p1_families p1_walls p1_trees p1_owners u.1 t_sickBits u.2.1 t_shares p1_kinds u.2.2.1 u.2.2.2) H → va_D A (wX6_goDay cI cC cB cS a_p1 a_p1_kinds a_p1_hours a_p1_lands a_p1_owners a_p1_treeWalls a_p1_treePlaces a_t a_t_land a_t_places a_t_shares a_t_did p1_families p1_walls p1_trees p1_owners u.1 t_sickBits u.2.1 t_shares p1_kinds u.2.2.1 u.2.2.2) → va_S A H0 H locs → W p l e rmX6_goDay s m args below meth c H locs 0 0 Q (F0 m pc ls [.int r])) {H : Heap} {locs : List Loc} {ls : Array Slot} (hP : va_P D vwCl (wX6_goDay cI cC cB cS a_p1 a_p1_kinds a_p1_hours a_p1_lands a_p1_owners a_p1_treeWalls a_p1_treePlaces a_t a_t_land a_t_places a_t_shares a_t_did p1_families p1_walls p1_trees p1_owners t_days t_sickBits t_did t_shares p1_kinds t_land t_places) H) (hD : va_D A (wX6_goDay cI cC cB cS a_p1 a_p1_kinds a_p1_hours a_p1_lands a_p1_owners a_p1_treeWalls a_p1_treePlaces a_t a_t_land a_t_places a_t_shares a_t_did p1_families p1_walls p1_trees p1_owners t_days t_sickBits t_did t_shares p1_kinds t_land t_places)) (hS : va_S A H0 H locs) (hl : lv_has ls 6 [(0, .ref a_t), (1, .ref a_p1), (2, .int x2)]) : W p l e rmX6_goDay s m args below meth c H locs 0 0 Q (F0 m 0 ls []) := by
  obtain ⟨⟨hx, hb, hml, hown, hts⟩, hA, hK, hN⟩ := id X
  have L73 : ∀ (n73 : Nat) (x3 : Int32) (x4 : Int32) (t_days : Int32) (t_did : Nat → Int32) (t_land : Nat → Int32) (t_places : Nat → Int32)  (H : Heap) (locs : List Loc), va_P D vwCl (wX6_goDay cI cC cB cS a_p1 a_p1_kinds a_p1_hours a_p1_lands a_p1_owners a_p1_treeWalls a_p1_treePlaces a_t a_t_land a_t_places a_t_shares a_t_did p1_families p1_walls p1_trees p1_owners t_days t_sickBits t_did t_shares p1_kinds t_land t_places) H → va_D A (wX6_goDay cI cC cB cS a_p1 a_p1_kinds a_p1_hours a_p1_lands a_p1_owners a_p1_treeWalls a_p1_treePlaces a_t a_t_land a_t_places a_t_shares a_t_did p1_families p1_walls p1_trees p1_owners t_days t_sickBits t_did t_shares p1_kinds t_land t_places) → va_S A H0 H locs → P_X6_goDay_L73 p1_walls p1_owners t_sickBits t_shares p1_kinds post n73 x3 x4 t_days t_did t_land t_places → ∀ ls : Array Slot, lv_has ls 6 [(0, .ref a_t), (1, .ref a_p1), (3, .int x3), (4, .int x4)] → W p l e rmX6_goDay s m args below meth c H locs 0 0 Q (F0 m 73 ls []) := by
    intro n73
    induction n73 with
    | zero => intro x3 x4 t_days t_did t_land t_places H locs hP hD hS hp; exact False.elim hp
    | succ n73 ih73 =>
      have J179 : ∀ (x3 : Int32) (x4 : Int32) (t_days : Int32) (t_did : Nat → Int32) (t_land : Nat → Int32) (t_places : Nat → Int32)  (H : Heap) (locs : List Loc), va_P D vwCl (wX6_goDay cI cC cB cS a_p1 a_p1_kinds a_p1_hours a_p1_lands a_p1_owners a_p1_treeWalls a_p1_treePlaces a_t a_t_land a_t_places a_t_shares a_t_did p1_families p1_walls p1_trees p1_owners t_days t_sickBits t_did t_shares p1_kinds t_land t_places) H → va_D A (wX6_goDay cI cC cB cS a_p1 a_p1_kinds a_p1_hours a_p1_lands a_p1_owners a_p1_treeWalls a_p1_treePlaces a_t a_t_land a_t_places a_t_shares a_t_did p1_families p1_walls p1_trees p1_owners t_days t_sickBits t_did t_shares p1_kinds t_land t_places) → va_S A H0 H locs → P_X6_goDay_b179 p1_walls p1_owners t_sickBits t_shares p1_kinds (P_X6_goDay_L73 p1_walls p1_owners t_sickBits t_shares p1_kinds post n73) post x3 x4 t_days t_did t_land t_places → ∀ ls : Array Slot, lv_has ls 6 [(0, .ref a_t), (1, .ref a_p1), (3, .int x3), (4, .int x4)] → W p l e rmX6_goDay s m args below meth c H locs 0 0 Q (F0 m 179 ls []) := by
        intro x3 x4 t_days t_did t_land t_places H locs hP hD hS hp ls hl
        unfold P_X6_goDay_b179 at hp
        refine lv_iinc (v := x4 + (1 : Int32)) (lv' := [(4, .int (x4 + (1 : Int32))), (0, .ref a_t), (1, .ref a_p1), (3, .int x3)]) hx hb dX6_goDay_179 hl (k := 3) rfl rfl (by decide) rfl (fun ls hl => ?_)
        refine lv_goto (tgt := 73) hx hb dX6_goDay_182 (by decide) ?_
        exact ih73 x3 (x4 + (1 : Int32)) t_days t_did t_land t_places _ _ hP hD hS hp _ (lv_sub hl [1, 2, 3, 0] rfl)
      have J174 : ∀ (x3 : Int32) (x4 : Int32) (y1 : Int32) (y2 : Int32) (y3 : Int32) (t_days : Int32) (t_did : Nat → Int32) (t_land : Nat → Int32) (t_places : Nat → Int32)  (H : Heap) (locs : List Loc), va_P D vwCl (wX6_goDay cI cC cB cS a_p1 a_p1_kinds a_p1_hours a_p1_lands a_p1_owners a_p1_treeWalls a_p1_treePlaces a_t a_t_land a_t_places a_t_shares a_t_did p1_families p1_walls p1_trees p1_owners t_days t_sickBits t_did t_shares p1_kinds t_land t_places) H → va_D A (wX6_goDay cI cC cB cS a_p1 a_p1_kinds a_p1_hours a_p1_lands a_p1_owners a_p1_treeWalls a_p1_treePlaces a_t a_t_land a_t_places a_t_shares a_t_did p1_families p1_walls p1_trees p1_owners t_days t_sickBits t_did t_shares p1_kinds t_land t_places) → va_S A H0 H locs → P_X6_goDay_b174 p1_walls p1_owners t_sickBits t_shares p1_kinds (P_X6_goDay_L73 p1_walls p1_owners t_sickBits t_shares p1_kinds post n73) post x3 x4 y1 y2 y3 t_days t_did t_land t_places → ∀ ls : Array Slot, lv_has ls 6 [(0, .ref a_t), (1, .ref a_p1), (3, .int x3), (4, .int x4)] → W p l e rmX6_goDay s m args below meth c H locs 0 0 Q (F0 m 174 ls [.int y3, .int y2, .int y1, .ref a_t_places]) := by
        intro x3 x4 y1 y2 y3 t_days t_did t_land t_places H locs hP hD hS hp ls hl
        unfold P_X6_goDay_b174 at hp
        refine lv_iadd hx hb dX6_goDay_174 ?_
        obtain ⟨hi, hp⟩ := hp
        refine va_iast (D := D) hx hb hK hP hD hS 7 0 rfl rfl hi dX6_goDay_175 (fun H locs hP hD hS => ?_)
        have hP : va_P D vwCl (wX6_goDay cI cC cB cS a_p1 a_p1_kinds a_p1_hours a_p1_lands a_p1_owners a_p1_treeWalls a_p1_treePlaces a_t a_t_land a_t_places a_t_shares a_t_did p1_families p1_walls p1_trees p1_owners t_days t_sickBits t_did t_shares p1_kinds t_land (upd t_places y1.toNatClampNeg (y2 + y3))) H := hP
        have hD : va_D A (wX6_goDay cI cC cB cS a_p1 a_p1_kinds a_p1_hours a_p1_lands a_p1_owners a_p1_treeWalls a_p1_treePlaces a_t a_t_land a_t_places a_t_shares a_t_did p1_families p1_walls p1_trees p1_owners t_days t_sickBits t_did t_shares p1_kinds t_land (upd t_places y1.toNatClampNeg (y2 + y3))) := hD
        refine lv_iinc (v := x3 + (1 : Int32)) (lv' := [(3, .int (x3 + (1 : Int32))), (0, .ref a_t), (1, .ref a_p1), (4, .int x4)]) hx hb dX6_goDay_176 hl (k := 2) rfl rfl (by decide) rfl (fun ls hl => ?_)
        exact J179 (x3 + (1 : Int32)) x4 t_days t_did t_land (upd t_places y1.toNatClampNeg (y2 + y3)) _ _ hP hD hS hp _ (lv_sub hl [1, 2, 0, 3] rfl)
      intro x3 x4 t_days t_did t_land t_places H locs hP hD hS hp ls hl
      rw [P_X6_goDay_L73] at hp
      refine lv_iload hx hb dX6_goDay_73 (lv_at hl 3 rfl) ?_
      refine lv_aload_n hx hb dX6_goDay_75 rfl (lv_at hl 1 rfl) ?_
      refine va_get (D := D) (ci := 1) (v := .int p1_walls) (C := RX1) (T := TX1) (N := 9) hx hb hts in_X6_goDay_X1 hown hK hP 0 rfl rfl 1 (by decide) (hts _ m_X6_goDay_f76) (fun _ h9 => h9) rfl dX6_goDay_76 ?_
      refine lv_icmp_ge (tgt := 185) hx hb dX6_goDay_79 (by decide) (fun hc => ?_) (fun hc => ?_)
      · have hp := hp.1 hc
        refine lv_iload_n hx hb dX6_goDay_185 rfl (lv_at hl 2 rfl) ?_
        exact hret (t_days, t_did, t_land, t_places) dX6_goDay_186 hp hP hD hS
      · have hp := hp.2 hc
        refine lv_aload_n hx hb dX6_goDay_82 rfl (lv_at hl 0 rfl) ?_
        refine lv_aload_n hx hb dX6_goDay_83 rfl (lv_at hl 1 rfl) ?_
        refine lv_iload hx hb dX6_goDay_84 (lv_at hl 3 rfl) ?_
        refine lv_aload_n hx hb dX6_goDay_86 rfl (lv_at hl 0 rfl) ?_
        refine va_get (D := D) (ci := 6) (v := .ref a_t_did) (C := RX6) (T := TX6) (N := 6) hx hb hts in_X6_goDay_X6 hown hK hP 2 rfl rfl 5 (by decide) (hts _ m_X6_goDay_f21) (fun _ h9 => h9) rfl dX6_goDay_87 ?_
        refine lv_iconst (v := 2) hx hb dX6_goDay_90 (by decide) ?_
        refine lv_iload hx hb dX6_goDay_91 (lv_at hl 3 rfl) ?_
        refine lv_imul hx hb dX6_goDay_93 ?_
        obtain ⟨hi, hp⟩ := hp
        refine va_iald (D := D) hx hb hK hP 3 0 rfl rfl hi dX6_goDay_94 ?_
        refine lv_aload_n hx hb dX6_goDay_95 rfl (lv_at hl 0 rfl) ?_
        refine va_get (D := D) (ci := 6) (v := .ref a_t_did) (C := RX6) (T := TX6) (N := 6) hx hb hts in_X6_goDay_X6 hown hK hP 2 rfl rfl 5 (by decide) (hts _ m_X6_goDay_f21) (fun _ h9 => h9) rfl dX6_goDay_96 ?_
        refine lv_iconst (v := 2) hx hb dX6_goDay_99 (by decide) ?_
        refine lv_iload hx hb dX6_goDay_100 (lv_at hl 3 rfl) ?_
        refine lv_imul hx hb dX6_goDay_102 ?_
        refine lv_iconst (v := 1) hx hb dX6_goDay_103 (by decide) ?_
        refine lv_iadd hx hb dX6_goDay_104 ?_
        obtain ⟨hi, hp⟩ := hp
        refine va_iald (D := D) hx hb hK hP 3 0 rfl rfl hi dX6_goDay_105 ?_
        refine hcV_i (As := [.ref a_p1, .int x4, .int (t_did ((2 : Int32) * x4).toNatClampNeg), .int (t_did (((2 : Int32) * x4) + (1 : Int32)).toNatClampNeg)]) (rest := []) (fun u => (wX6_goDay cI cC cB cS a_p1 a_p1_kinds a_p1_hours a_p1_lands a_p1_owners a_p1_treeWalls a_p1_treePlaces a_t a_t_land a_t_places a_t_shares a_t_did p1_families p1_walls p1_trees p1_owners t_days t_sickBits t_did t_shares p1_kinds t_land t_places)) X hP hD hS hl.1 [2, 0, 1, 6] [3, 4, 5, 7] [5, 6, 4, 0, 1, 2, 7, 3] 4 2 (@c_X6_losingSide l D cI cC cB cS a_t a_t_land a_t_places a_t_shares a_t_did a_p1 a_p1_kinds a_p1_hours a_p1_lands a_p1_owners a_p1_treeWalls a_p1_treePlaces t_days t_sickBits p1_families p1_walls p1_trees p1_owners t_land x4 (t_did ((2 : Int32) * x4).toNatClampNeg) (t_did (((2 : Int32) * x4) + (1 : Int32)).toNatClampNeg) _ hp) ⟨rfl, rfl⟩ (fun _ => rfl) (by decide +kernel) gX6_goDay_X6_losingSide rfl rfl rfl rfl hNm_X6_losingSide ⟨Nat.le_of_ble_eq_true rfl, Nat.le_of_ble_eq_true rfl⟩ (ci := 6) rfl rfl rfl rfl (Nat.le_of_ble_eq_true rfl) dX6_goDay_106 ⟨Nat.le_of_ble_eq_true rfl, Nat.le_of_ble_eq_true rfl⟩ (fun r106 _ H locs hp hP hD hS => ?_)
        try dsimp only at hp
        have hP : va_P D vwCl (wX6_goDay cI cC cB cS a_p1 a_p1_kinds a_p1_hours a_p1_lands a_p1_owners a_p1_treeWalls a_p1_treePlaces a_t a_t_land a_t_places a_t_shares a_t_did p1_families p1_walls p1_trees p1_owners t_days t_sickBits t_did t_shares p1_kinds t_land t_places) H := hP
        have hD : va_D A (wX6_goDay cI cC cB cS a_p1 a_p1_kinds a_p1_hours a_p1_lands a_p1_owners a_p1_treeWalls a_p1_treePlaces a_t a_t_land a_t_places a_t_shares a_t_did p1_families p1_walls p1_trees p1_owners t_days t_sickBits t_did t_shares p1_kinds t_land t_places) := hD
        refine lv_istore (lv' := [(5, .int r106), (0, .ref a_t), (1, .ref a_p1), (3, .int x3), (4, .int x4)]) hx hb dX6_goDay_109 hl (by decide) rfl (fun ls hl => ?_)
        refine lv_iload hx hb dX6_goDay_111 (lv_at hl 0 rfl) ?_
        refine lv_bipush (v := -4) hx hb dX6_goDay_113 (by decide) ?_
        refine lv_icmp_eq (tgt := 179) hx hb dX6_goDay_115 (by decide) (fun hc => ?_) (fun hc => ?_)
        · have hp := hp.1 hc
          exact J179 x3 x4 t_days t_did t_land t_places _ _ hP hD hS hp _ (lv_sub hl [1, 2, 3, 4] rfl)
        · have hp := hp.2 hc
          refine lv_aload_n hx hb dX6_goDay_118 rfl (lv_at hl 1 rfl) ?_
          refine va_get (D := D) (ci := 6) (v := .ref a_t_land) (C := RX6) (T := TX6) (N := 6) hx hb hts in_X6_goDay_X6 hown hK hP 2 rfl rfl 2 (by decide) (hts _ m_X6_goDay_f9) (fun _ h9 => h9) rfl dX6_goDay_119 ?_
          refine lv_aload_n hx hb dX6_goDay_122 rfl (lv_at hl 2 rfl) ?_
          refine va_get (D := D) (ci := 1) (v := .ref a_p1_owners) (C := RX1) (T := TX1) (N := 9) hx hb hts in_X6_goDay_X1 hown hK hP 0 rfl rfl 6 (by decide) (hts _ m_X6_goDay_f60) (fun _ h9 => h9) rfl dX6_goDay_123 ?_
          refine lv_iload hx hb dX6_goDay_126 (lv_at hl 0 rfl) ?_
          obtain ⟨hi, hp⟩ := hp
          refine va_iald (D := D) hx hb hK hP 1 0 rfl rfl hi dX6_goDay_128 ?_
          refine lv_dup2_11 hx hb dX6_goDay_129 rfl rfl ?_
          obtain ⟨hi, hp⟩ := hp
          refine va_iald (D := D) hx hb hK hP 6 0 rfl rfl hi dX6_goDay_130 ?_
          refine lv_iconst (v := 1) hx hb dX6_goDay_131 (by decide) ?_
          refine lv_isub hx hb dX6_goDay_132 ?_
          obtain ⟨hi, hp⟩ := hp
          refine va_iast (D := D) hx hb hK hP hD hS 6 0 rfl rfl hi dX6_goDay_133 (fun H locs hP hD hS => ?_)
          have hP : va_P D vwCl (wX6_goDay cI cC cB cS a_p1 a_p1_kinds a_p1_hours a_p1_lands a_p1_owners a_p1_treeWalls a_p1_treePlaces a_t a_t_land a_t_places a_t_shares a_t_did p1_families p1_walls p1_trees p1_owners t_days t_sickBits t_did t_shares p1_kinds (upd t_land (p1_owners r106.toNatClampNeg).toNatClampNeg ((t_land (p1_owners r106.toNatClampNeg).toNatClampNeg) - (1 : Int32))) t_places) H := hP
          have hD : va_D A (wX6_goDay cI cC cB cS a_p1 a_p1_kinds a_p1_hours a_p1_lands a_p1_owners a_p1_treeWalls a_p1_treePlaces a_t a_t_land a_t_places a_t_shares a_t_did p1_families p1_walls p1_trees p1_owners t_days t_sickBits t_did t_shares p1_kinds (upd t_land (p1_owners r106.toNatClampNeg).toNatClampNeg ((t_land (p1_owners r106.toNatClampNeg).toNatClampNeg) - (1 : Int32))) t_places) := hD
          refine lv_aload_n hx hb dX6_goDay_134 rfl (lv_at hl 1 rfl) ?_
          refine va_get (D := D) (ci := 6) (v := .ref a_t_land) (C := RX6) (T := TX6) (N := 6) hx hb hts in_X6_goDay_X6 hown hK hP 2 rfl rfl 2 (by decide) (hts _ m_X6_goDay_f9) (fun _ h9 => h9) rfl dX6_goDay_135 ?_
          refine lv_aload_n hx hb dX6_goDay_138 rfl (lv_at hl 2 rfl) ?_
          refine va_get (D := D) (ci := 1) (v := .ref a_p1_owners) (C := RX1) (T := TX1) (N := 9) hx hb hts in_X6_goDay_X1 hown hK hP 0 rfl rfl 6 (by decide) (hts _ m_X6_goDay_f60) (fun _ h9 => h9) rfl dX6_goDay_139 ?_
          refine lv_iload hx hb dX6_goDay_142 (lv_at hl 0 rfl) ?_
          refine lv_iconst (v := 1) hx hb dX6_goDay_144 (by decide) ?_
          refine lv_ixor hx hb dX6_goDay_145 ?_
          obtain ⟨hi, hp⟩ := hp
          refine va_iald (D := D) hx hb hK hP 1 0 rfl rfl hi dX6_goDay_146 ?_
          refine lv_dup2_11 hx hb dX6_goDay_147 rfl rfl ?_
          obtain ⟨hi, hp⟩ := hp
          refine va_iald (D := D) hx hb hK hP 6 0 rfl rfl hi dX6_goDay_148 ?_
          refine lv_iconst (v := 1) hx hb dX6_goDay_149 (by decide) ?_
          refine lv_iadd hx hb dX6_goDay_150 ?_
          obtain ⟨hi, hp⟩ := hp
          refine va_iast (D := D) hx hb hK hP hD hS 6 0 rfl rfl hi dX6_goDay_151 (fun H locs hP hD hS => ?_)
          have hP : va_P D vwCl (wX6_goDay cI cC cB cS a_p1 a_p1_kinds a_p1_hours a_p1_lands a_p1_owners a_p1_treeWalls a_p1_treePlaces a_t a_t_land a_t_places a_t_shares a_t_did p1_families p1_walls p1_trees p1_owners t_days t_sickBits t_did t_shares p1_kinds (upd (upd t_land (p1_owners r106.toNatClampNeg).toNatClampNeg ((t_land (p1_owners r106.toNatClampNeg).toNatClampNeg) - (1 : Int32))) (p1_owners (r106 ^^^ (1 : Int32)).toNatClampNeg).toNatClampNeg (((upd t_land (p1_owners r106.toNatClampNeg).toNatClampNeg ((t_land (p1_owners r106.toNatClampNeg).toNatClampNeg) - (1 : Int32))) (p1_owners (r106 ^^^ (1 : Int32)).toNatClampNeg).toNatClampNeg) + (1 : Int32))) t_places) H := hP
          have hD : va_D A (wX6_goDay cI cC cB cS a_p1 a_p1_kinds a_p1_hours a_p1_lands a_p1_owners a_p1_treeWalls a_p1_treePlaces a_t a_t_land a_t_places a_t_shares a_t_did p1_families p1_walls p1_trees p1_owners t_days t_sickBits t_did t_shares p1_kinds (upd (upd t_land (p1_owners r106.toNatClampNeg).toNatClampNeg ((t_land (p1_owners r106.toNatClampNeg).toNatClampNeg) - (1 : Int32))) (p1_owners (r106 ^^^ (1 : Int32)).toNatClampNeg).toNatClampNeg (((upd t_land (p1_owners r106.toNatClampNeg).toNatClampNeg ((t_land (p1_owners r106.toNatClampNeg).toNatClampNeg) - (1 : Int32))) (p1_owners (r106 ^^^ (1 : Int32)).toNatClampNeg).toNatClampNeg) + (1 : Int32))) t_places) := hD
          refine lv_aload_n hx hb dX6_goDay_152 rfl (lv_at hl 1 rfl) ?_
          refine va_get (D := D) (ci := 6) (v := .ref a_t_places) (C := RX6) (T := TX6) (N := 6) hx hb hts in_X6_goDay_X6 hown hK hP 2 rfl rfl 3 (by decide) (hts _ m_X6_goDay_f15) (fun _ h9 => h9) rfl dX6_goDay_153 ?_
          refine lv_iload hx hb dX6_goDay_156 (lv_at hl 4 rfl) ?_
          refine lv_dup2_11 hx hb dX6_goDay_158 rfl rfl ?_
          obtain ⟨hi, hp⟩ := hp
          refine va_iald (D := D) hx hb hK hP 7 0 rfl rfl hi dX6_goDay_159 ?_
          refine lv_iload hx hb dX6_goDay_160 (lv_at hl 0 rfl) ?_
          refine lv_iconst (v := 2) hx hb dX6_goDay_162 (by decide) ?_
          refine lv_iload hx hb dX6_goDay_163 (lv_at hl 4 rfl) ?_
          refine lv_imul hx hb dX6_goDay_165 ?_
          refine lv_icmp_ne (tgt := 173) hx hb dX6_goDay_166 (by decide) (fun hc => ?_) (fun hc => ?_)
          · have hp := hp.1 hc
            refine lv_iconst (v := 1) hx hb dX6_goDay_173 (by decide) ?_
            exact J174 x3 x4 x4 (t_places x4.toNatClampNeg) (1 : Int32) t_days t_did (upd (upd t_land (p1_owners r106.toNatClampNeg).toNatClampNeg ((t_land (p1_owners r106.toNatClampNeg).toNatClampNeg) - (1 : Int32))) (p1_owners (r106 ^^^ (1 : Int32)).toNatClampNeg).toNatClampNeg (((upd t_land (p1_owners r106.toNatClampNeg).toNatClampNeg ((t_land (p1_owners r106.toNatClampNeg).toNatClampNeg) - (1 : Int32))) (p1_owners (r106 ^^^ (1 : Int32)).toNatClampNeg).toNatClampNeg) + (1 : Int32))) t_places _ _ hP hD hS hp _ (lv_sub hl [1, 2, 3, 4] rfl)
          · have hp := hp.2 hc
            refine lv_iconst (v := -1) hx hb dX6_goDay_169 (by decide) ?_
            refine lv_goto (tgt := 174) hx hb dX6_goDay_170 (by decide) ?_
            exact J174 x3 x4 x4 (t_places x4.toNatClampNeg) (-1 : Int32) t_days t_did (upd (upd t_land (p1_owners r106.toNatClampNeg).toNatClampNeg ((t_land (p1_owners r106.toNatClampNeg).toNatClampNeg) - (1 : Int32))) (p1_owners (r106 ^^^ (1 : Int32)).toNatClampNeg).toNatClampNeg (((upd t_land (p1_owners r106.toNatClampNeg).toNatClampNeg ((t_land (p1_owners r106.toNatClampNeg).toNatClampNeg) - (1 : Int32))) (p1_owners (r106 ^^^ (1 : Int32)).toNatClampNeg).toNatClampNeg) + (1 : Int32))) t_places _ _ hP hD hS hp _ (lv_sub hl [1, 2, 3, 4] rfl)
  have L2 : ∀ (n2 : Nat) (x2 : Int32) (x3 : Int32) (t_days : Int32) (t_did : Nat → Int32) (t_land : Nat → Int32) (t_places : Nat → Int32)  (H : Heap) (locs : List Loc), va_P D vwCl (wX6_goDay cI cC cB cS a_p1 a_p1_kinds a_p1_hours a_p1_lands a_p1_owners a_p1_treeWalls a_p1_treePlaces a_t a_t_land a_t_places a_t_shares a_t_did p1_families p1_walls p1_trees p1_owners t_days t_sickBits t_did t_shares p1_kinds t_land t_places) H → va_D A (wX6_goDay cI cC cB cS a_p1 a_p1_kinds a_p1_hours a_p1_lands a_p1_owners a_p1_treeWalls a_p1_treePlaces a_t a_t_land a_t_places a_t_shares a_t_did p1_families p1_walls p1_trees p1_owners t_days t_sickBits t_did t_shares p1_kinds t_land t_places) → va_S A H0 H locs → P_X6_goDay_L2 p1_walls p1_owners t_sickBits t_shares p1_kinds post n2 x2 x3 t_days t_did t_land t_places → ∀ ls : Array Slot, lv_has ls 6 [(0, .ref a_t), (1, .ref a_p1), (2, .int x2), (3, .int x3)] → W p l e rmX6_goDay s m args below meth c H locs 0 0 Q (F0 m 2 ls []) := by
    intro n2
    induction n2 with
    | zero => intro x2 x3 t_days t_did t_land t_places H locs hP hD hS hp; exact False.elim hp
    | succ n2 ih2 =>
      have J51 : ∀ (x2 : Int32) (x3 : Int32) (y1 : Int32) (y2 : Int32) (t_days : Int32) (t_did : Nat → Int32) (t_land : Nat → Int32) (t_places : Nat → Int32)  (H : Heap) (locs : List Loc), va_P D vwCl (wX6_goDay cI cC cB cS a_p1 a_p1_kinds a_p1_hours a_p1_lands a_p1_owners a_p1_treeWalls a_p1_treePlaces a_t a_t_land a_t_places a_t_shares a_t_did p1_families p1_walls p1_trees p1_owners t_days t_sickBits t_did t_shares p1_kinds t_land t_places) H → va_D A (wX6_goDay cI cC cB cS a_p1 a_p1_kinds a_p1_hours a_p1_lands a_p1_owners a_p1_treeWalls a_p1_treePlaces a_t a_t_land a_t_places a_t_shares a_t_did p1_families p1_walls p1_trees p1_owners t_days t_sickBits t_did t_shares p1_kinds t_land t_places) → va_S A H0 H locs → P_X6_goDay_b51 p1_walls p1_owners t_sickBits t_shares p1_kinds (P_X6_goDay_L2 p1_walls p1_owners t_sickBits t_shares p1_kinds post n2) post x2 x3 y1 y2 t_days t_did t_land t_places → ∀ ls : Array Slot, lv_has ls 6 [(0, .ref a_t), (1, .ref a_p1), (2, .int x2), (3, .int x3)] → W p l e rmX6_goDay s m args below meth c H locs 0 0 Q (F0 m 51 ls [.int y2, .int y1, .ref a_t_did]) := by
        intro x2 x3 y1 y2 t_days t_did t_land t_places H locs hP hD hS hp ls hl
        unfold P_X6_goDay_b51 at hp
        obtain ⟨hi, hp⟩ := hp
        refine va_iast (D := D) hx hb hK hP hD hS 3 0 rfl rfl hi dX6_goDay_51 (fun H locs hP hD hS => ?_)
        have hP : va_P D vwCl (wX6_goDay cI cC cB cS a_p1 a_p1_kinds a_p1_hours a_p1_lands a_p1_owners a_p1_treeWalls a_p1_treePlaces a_t a_t_land a_t_places a_t_shares a_t_did p1_families p1_walls p1_trees p1_owners t_days t_sickBits (upd t_did y1.toNatClampNeg y2) t_shares p1_kinds t_land t_places) H := hP
        have hD : va_D A (wX6_goDay cI cC cB cS a_p1 a_p1_kinds a_p1_hours a_p1_lands a_p1_owners a_p1_treeWalls a_p1_treePlaces a_t a_t_land a_t_places a_t_shares a_t_did p1_families p1_walls p1_trees p1_owners t_days t_sickBits (upd t_did y1.toNatClampNeg y2) t_shares p1_kinds t_land t_places) := hD
        refine lv_iinc (v := x3 + (1 : Int32)) (lv' := [(3, .int (x3 + (1 : Int32))), (0, .ref a_t), (1, .ref a_p1), (2, .int x2)]) hx hb dX6_goDay_52 hl (k := 3) rfl rfl (by decide) rfl (fun ls hl => ?_)
        refine lv_goto (tgt := 2) hx hb dX6_goDay_55 (by decide) ?_
        exact ih2 x2 (x3 + (1 : Int32)) t_days (upd t_did y1.toNatClampNeg y2) t_land t_places _ _ hP hD hS hp _ (lv_sub hl [1, 2, 3, 0] rfl)
      have J29 : ∀ (x2 : Int32) (x3 : Int32) (y0 : Int32) (t_days : Int32) (t_did : Nat → Int32) (t_land : Nat → Int32) (t_places : Nat → Int32)  (H : Heap) (locs : List Loc), va_P D vwCl (wX6_goDay cI cC cB cS a_p1 a_p1_kinds a_p1_hours a_p1_lands a_p1_owners a_p1_treeWalls a_p1_treePlaces a_t a_t_land a_t_places a_t_shares a_t_did p1_families p1_walls p1_trees p1_owners t_days t_sickBits t_did t_shares p1_kinds t_land t_places) H → va_D A (wX6_goDay cI cC cB cS a_p1 a_p1_kinds a_p1_hours a_p1_lands a_p1_owners a_p1_treeWalls a_p1_treePlaces a_t a_t_land a_t_places a_t_shares a_t_did p1_families p1_walls p1_trees p1_owners t_days t_sickBits t_did t_shares p1_kinds t_land t_places) → va_S A H0 H locs → P_X6_goDay_b29 p1_walls p1_owners t_sickBits t_shares p1_kinds (P_X6_goDay_L2 p1_walls p1_owners t_sickBits t_shares p1_kinds post n2) post x2 x3 y0 t_days t_did t_land t_places → ∀ ls : Array Slot, lv_has ls 6 [(0, .ref a_t), (1, .ref a_p1), (2, .int x2), (3, .int x3)] → W p l e rmX6_goDay s m args below meth c H locs 0 0 Q (F0 m 29 ls [.int y0]) := by
        intro x2 x3 y0 t_days t_did t_land t_places H locs hP hD hS hp ls hl
        unfold P_X6_goDay_b29 at hp
        refine lv_istore (lv' := [(4, .int y0), (0, .ref a_t), (1, .ref a_p1), (2, .int x2), (3, .int x3)]) hx hb dX6_goDay_29 hl (by decide) rfl (fun ls hl => ?_)
        refine lv_aload_n hx hb dX6_goDay_31 rfl (lv_at hl 1 rfl) ?_
        refine va_get (D := D) (ci := 6) (v := .ref a_t_did) (C := RX6) (T := TX6) (N := 6) hx hb hts in_X6_goDay_X6 hown hK hP 2 rfl rfl 5 (by decide) (hts _ m_X6_goDay_f21) (fun _ h9 => h9) rfl dX6_goDay_32 ?_
        refine lv_iload_n hx hb dX6_goDay_35 rfl (lv_at hl 4 rfl) ?_
        refine lv_iload hx hb dX6_goDay_36 (lv_at hl 0 rfl) ?_
        refine lv_if_eq (tgt := 45) hx hb dX6_goDay_38 (by decide) (fun hc => ?_) (fun hc => ?_)
        · have hp := hp.1 hc
          refine lv_aload_n hx hb dX6_goDay_45 rfl (lv_at hl 1 rfl) ?_
          refine lv_aload_n hx hb dX6_goDay_46 rfl (lv_at hl 2 rfl) ?_
          refine lv_iload_n hx hb dX6_goDay_47 rfl (lv_at hl 4 rfl) ?_
          refine hcV_i (As := [.ref a_p1, .int x3]) (rest := [.int x3, .ref a_t_did]) (fun u => (wX6_goDay cI cC cB cS a_p1 a_p1_kinds a_p1_hours a_p1_lands a_p1_owners a_p1_treeWalls a_p1_treePlaces a_t a_t_land a_t_places a_t_shares a_t_did p1_families p1_walls p1_trees p1_owners t_days t_sickBits t_did t_shares p1_kinds t_land t_places)) X hP hD hS hl.1 [2, 0, 1, 4, 5, 6] [3, 7] [3, 4, 2, 0, 5, 6, 7, 1] 2 2 (@c_X6_does l D cI cC cB cS a_t a_t_land a_t_places a_t_shares a_t_did a_p1 a_p1_kinds a_p1_hours a_p1_lands a_p1_owners a_p1_treeWalls a_p1_treePlaces t_days t_sickBits p1_families p1_walls p1_trees p1_owners t_shares p1_kinds t_land x3 _ hp) ⟨rfl, rfl⟩ (fun _ => rfl) (by decide +kernel) gX6_goDay_X6_does rfl rfl rfl rfl hNm_X6_does ⟨Nat.le_of_ble_eq_true rfl, Nat.le_of_ble_eq_true rfl⟩ (ci := 6) rfl rfl rfl rfl (Nat.le_of_ble_eq_true rfl) dX6_goDay_48 ⟨Nat.le_of_ble_eq_true rfl, Nat.le_of_ble_eq_true rfl⟩ (fun r48 _ H locs hp hP hD hS => ?_)
          try dsimp only at hp
          have hP : va_P D vwCl (wX6_goDay cI cC cB cS a_p1 a_p1_kinds a_p1_hours a_p1_lands a_p1_owners a_p1_treeWalls a_p1_treePlaces a_t a_t_land a_t_places a_t_shares a_t_did p1_families p1_walls p1_trees p1_owners t_days t_sickBits t_did t_shares p1_kinds t_land t_places) H := hP
          have hD : va_D A (wX6_goDay cI cC cB cS a_p1 a_p1_kinds a_p1_hours a_p1_lands a_p1_owners a_p1_treeWalls a_p1_treePlaces a_t a_t_land a_t_places a_t_shares a_t_did p1_families p1_walls p1_trees p1_owners t_days t_sickBits t_did t_shares p1_kinds t_land t_places) := hD
          exact J51 x2 x3 x3 r48 t_days t_did t_land t_places _ _ hP hD hS hp _ (lv_sub hl [1, 2, 3, 4] rfl)
        · have hp := hp.2 hc
          refine lv_iconst (v := 0) hx hb dX6_goDay_41 (by decide) ?_
          refine lv_goto (tgt := 51) hx hb dX6_goDay_42 (by decide) ?_
          exact J51 x2 x3 x3 (0 : Int32) t_days t_did t_land t_places _ _ hP hD hS hp _ (lv_sub hl [1, 2, 3, 4] rfl)
      intro x2 x3 t_days t_did t_land t_places H locs hP hD hS hp ls hl
      rw [P_X6_goDay_L2] at hp
      refine lv_iload_n hx hb dX6_goDay_2 rfl (lv_at hl 3 rfl) ?_
      refine lv_aload_n hx hb dX6_goDay_3 rfl (lv_at hl 1 rfl) ?_
      refine hcV_i (As := []) (rest := [.int x3]) (fun u => (wX6_goDay cI cC cB cS a_p1 a_p1_kinds a_p1_hours a_p1_lands a_p1_owners a_p1_treeWalls a_p1_treePlaces a_t a_t_land a_t_places a_t_shares a_t_did p1_families p1_walls p1_trees p1_owners t_days t_sickBits t_did t_shares p1_kinds t_land t_places)) X hP hD hS hl.1 [0] [1, 2, 3, 4, 5, 6, 7] [7, 0, 1, 2, 3, 4, 5, 6] 0 0 (@c_X1_sides l D cI cC cB cS a_p1 a_p1_kinds a_p1_hours a_p1_lands a_p1_owners a_p1_treeWalls a_p1_treePlaces p1_families p1_walls p1_trees _ hp) ⟨rfl, rfl⟩ (fun _ => rfl) (by decide +kernel) gX6_goDay_X1_sides rfl rfl rfl rfl hNm_X1_sides ⟨Nat.le_of_ble_eq_true rfl, Nat.le_of_ble_eq_true rfl⟩ (ci := 1) rfl rfl rfl rfl (Nat.le_of_ble_eq_true rfl) dX6_goDay_4 ⟨Nat.le_of_ble_eq_true rfl, Nat.le_of_ble_eq_true rfl⟩ (fun r4 _ H locs hp hP hD hS => ?_)
      try dsimp only at hp
      have hP : va_P D vwCl (wX6_goDay cI cC cB cS a_p1 a_p1_kinds a_p1_hours a_p1_lands a_p1_owners a_p1_treeWalls a_p1_treePlaces a_t a_t_land a_t_places a_t_shares a_t_did p1_families p1_walls p1_trees p1_owners t_days t_sickBits t_did t_shares p1_kinds t_land t_places) H := hP
      have hD : va_D A (wX6_goDay cI cC cB cS a_p1 a_p1_kinds a_p1_hours a_p1_lands a_p1_owners a_p1_treeWalls a_p1_treePlaces a_t a_t_land a_t_places a_t_shares a_t_did p1_families p1_walls p1_trees p1_owners t_days t_sickBits t_did t_shares p1_kinds t_land t_places) := hD
      refine lv_icmp_ge (tgt := 58) hx hb dX6_goDay_7 (by decide) (fun hc => ?_) (fun hc => ?_)
      · have hp := hp.1 hc
        refine lv_aload_n hx hb dX6_goDay_58 rfl (lv_at hl 0 rfl) ?_
        refine lv_dup hx hb dX6_goDay_59 rfl ?_
        refine va_get (D := D) (ci := 6) (v := .int t_days) (C := RX6) (T := TX6) (N := 6) hx hb hts in_X6_goDay_X6 hown hK hP 2 rfl rfl 0 (by decide) (hts _ m_X6_goDay_f24) (fun _ h9 => h9) rfl dX6_goDay_60 ?_
        refine lv_iconst (v := 1) hx hb dX6_goDay_63 (by decide) ?_
        refine lv_iadd hx hb dX6_goDay_64 ?_
        refine va_put (D := D) (ci := 6) (v := .int (t_days + (1 : Int32))) (ty := .int) (C := RX6) (T := TX6) (N := 6) hx hb hts in_X6_goDay_X6 tyX6 tyX6_ok nmX6 hown hK hP hD hS 2 rfl rfl 0 (by decide) (hts _ m_X6_goDay_f24) (fun _ h9 => h9) rfl (by decide +kernel) rfl rfl (Nat.le_of_ble_eq_true rfl) dX6_goDay_65 (fun H locs hP hD hS => ?_)
        have hP : va_P D vwCl (wX6_goDay cI cC cB cS a_p1 a_p1_kinds a_p1_hours a_p1_lands a_p1_owners a_p1_treeWalls a_p1_treePlaces a_t a_t_land a_t_places a_t_shares a_t_did p1_families p1_walls p1_trees p1_owners (t_days + (1 : Int32)) t_sickBits t_did t_shares p1_kinds t_land t_places) H := hP
        have hD : va_D A (wX6_goDay cI cC cB cS a_p1 a_p1_kinds a_p1_hours a_p1_lands a_p1_owners a_p1_treeWalls a_p1_treePlaces a_t a_t_land a_t_places a_t_shares a_t_did p1_families p1_walls p1_trees p1_owners (t_days + (1 : Int32)) t_sickBits t_did t_shares p1_kinds t_land t_places) := hD
        refine lv_iconst (v := 0) hx hb dX6_goDay_68 (by decide) ?_
        refine lv_istore_n (lv' := [(3, .int (0 : Int32)), (0, .ref a_t), (1, .ref a_p1), (2, .int x2)]) hx hb dX6_goDay_69 rfl hl (by decide) rfl (fun ls hl => ?_)
        refine lv_iconst (v := 0) hx hb dX6_goDay_70 (by decide) ?_
        refine lv_istore (lv' := [(4, .int (0 : Int32)), (3, .int (0 : Int32)), (0, .ref a_t), (1, .ref a_p1), (2, .int x2)]) hx hb dX6_goDay_71 hl (by decide) rfl (fun ls hl => ?_)
        obtain ⟨n73, hp⟩ := hp
        exact L73 n73 (0 : Int32) (0 : Int32) (t_days + (1 : Int32)) t_did t_land t_places _ _ hP hD hS hp _ (lv_sub hl [2, 3, 1, 0] rfl)
      · have hp := hp.2 hc
        refine lv_iload_n hx hb dX6_goDay_10 rfl (lv_at hl 2 rfl) ?_
        refine lv_aload_n hx hb dX6_goDay_11 rfl (lv_at hl 1 rfl) ?_
        refine va_get (D := D) (ci := 1) (v := .ref a_p1_owners) (C := RX1) (T := TX1) (N := 9) hx hb hts in_X6_goDay_X1 hown hK hP 0 rfl rfl 6 (by decide) (hts _ m_X6_goDay_f60) (fun _ h9 => h9) rfl dX6_goDay_12 ?_
        refine lv_iload_n hx hb dX6_goDay_15 rfl (lv_at hl 3 rfl) ?_
        obtain ⟨hi, hp⟩ := hp
        refine va_iald (D := D) hx hb hK hP 1 0 rfl rfl hi dX6_goDay_16 ?_
        refine lv_ishr hx hb dX6_goDay_17 ?_
        refine lv_iconst (v := 1) hx hb dX6_goDay_18 (by decide) ?_
        refine lv_iand hx hb dX6_goDay_19 ?_
        refine lv_iconst (v := 1) hx hb dX6_goDay_20 (by decide) ?_
        refine lv_icmp_ne (tgt := 28) hx hb dX6_goDay_21 (by decide) (fun hc => ?_) (fun hc => ?_)
        · have hp := hp.1 hc
          refine lv_iconst (v := 0) hx hb dX6_goDay_28 (by decide) ?_
          exact J29 x2 x3 (0 : Int32) t_days t_did t_land t_places _ _ hP hD hS hp _ (lv_sub hl [0, 1, 2, 3] rfl)
        · have hp := hp.2 hc
          refine lv_iconst (v := 1) hx hb dX6_goDay_24 (by decide) ?_
          refine lv_goto (tgt := 29) hx hb dX6_goDay_25 (by decide) ?_
          exact J29 x2 x3 (1 : Int32) t_days t_did t_land t_places _ _ hP hD hS hp _ (lv_sub hl [0, 1, 2, 3] rfl)
  unfold P_X6_goDay at hp
  refine lv_iconst (v := 0) hx hb dX6_goDay_0 (by decide) ?_
  refine lv_istore_n (lv' := [(3, .int (0 : Int32)), (0, .ref a_t), (1, .ref a_p1), (2, .int x2)]) hx hb dX6_goDay_1 rfl hl (by decide) rfl (fun ls hl => ?_)
  obtain ⟨n2, hp⟩ := hp
  exact L2 n2 x2 (0 : Int32) t_days t_did t_land t_places _ _ hP hD hS hp _ (lv_sub hl [1, 2, 3, 0] rfl)
theorem c_X6_goDay (l : Launch) (D : va_G) (cI cC cB cS : ClassId) (a_p1 a_p1_kinds a_p1_hours a_p1_lands a_p1_owners a_p1_treeWalls a_p1_treePlaces a_t a_t_land a_t_places a_t_shares a_t_did : Nat) (p1_families : Int32) (p1_walls : Int32) (p1_trees : Int32) (p1_owners : Nat → Int32) (t_days : Int32) (t_sickBits : Int32) (t_did : Nat → Int32) (t_shares : Nat → Int32) (p1_kinds : Nat → Int32) (t_land : Nat → Int32) (t_places : Nat → Int32) (x2 : Int32) {post : Int32 → Int32 → (Nat → Int32) → (Nat → Int32) → (Nat → Int32) → Prop} (hp : P_X6_goDay x2 p1_walls p1_owners t_days t_sickBits t_did t_shares p1_kinds t_land t_places post) : CtrI l yX6_goDay wsX6_goDay rmX6_goDay D (tyL cI cC cB cS) [.ref a_t, .ref a_p1, .int x2] (wX6_goDay cI cC cB cS a_p1 a_p1_kinds a_p1_hours a_p1_lands a_p1_owners a_p1_treeWalls a_p1_treePlaces a_t a_t_land a_t_places a_t_shares a_t_did p1_families p1_walls p1_trees p1_owners t_days t_sickBits t_did t_shares p1_kinds t_land t_places) (fun r (u : Int32 × (Nat → Int32) × (Nat → Int32) × (Nat → Int32)) => post r u.1 u.2.1 u.2.2.1 u.2.2.2) (fun u => (wX6_goDay cI cC cB cS a_p1 a_p1_kinds a_p1_hours a_p1_lands a_p1_owners a_p1_treeWalls a_p1_treePlaces a_t a_t_land a_t_places a_t_shares a_t_did p1_families p1_walls p1_trees p1_owners u.1 t_sickBits u.2.1 t_shares p1_kinds u.2.2.1 u.2.2.2)) 0 0 :=
  ctrI_of (cc := cX6_goDay) (maxL := 6) (by decide) rfl (Nat.le_of_ble_eq_true rfl) (fun X hret _ _ _ hP hD hS hl => k_X6_goDay l D cI cC cB cS a_p1 a_p1_kinds a_p1_hours a_p1_lands a_p1_owners a_p1_treeWalls a_p1_treePlaces a_t a_t_land a_t_places a_t_shares a_t_did p1_families p1_walls p1_trees p1_owners t_days t_sickBits t_did t_shares p1_kinds t_land t_places x2 hp X hret hP hD hS hl)
