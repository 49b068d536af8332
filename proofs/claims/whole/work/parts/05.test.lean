-- sides()I
abbrev rmX1_sides : Room := { frames := 0, cells := 0, slots := 0, locals := 0 }
abbrev wX1_sides (cI cC cB cS : ClassId) (a_t a_t_kinds a_t_hours a_t_lands a_t_owners a_t_treeWalls a_t_treePlaces : Nat) (t_families : Int32) (t_walls : Int32) (t_trees : Int32) : va_W := [(a_t, .inr (1, [.int t_families, .int t_walls, .int t_trees, .ref a_t_kinds, .ref a_t_hours, .ref a_t_lands, .ref a_t_owners, .ref a_t_treeWalls, .ref a_t_treePlaces]))]
theorem hNm_X1_sides : hNm yX1_sides 0 := by decide +kernel
theorem m_X1_sides_f34 : Cond.fieldLink RX1 34 "LeaningWalls$County" "walls" "I" ∈ wsX1_sides := by decide +kernel
theorem in_X1_sides_X1 : ∀ w ∈ wsX10, w ∈ wsX1_sides := by decide +kernel
def P_X1_sides  (t_walls : Int32) (post : Int32 → Prop) : Prop := post ((2 : Int32) * t_walls)
set_option maxHeartbeats 4000000 in
set_option maxRecDepth 100000 in
theorem k_X1_sides (l : Launch) (D : va_G) (cI cC cB cS : ClassId) (a_t a_t_kinds a_t_hours a_t_lands a_t_owners a_t_treeWalls a_t_treePlaces : Nat) (t_families : Int32) (t_walls : Int32) (t_trees : Int32)  {post : Int32 → Prop} (hp : P_X1_sides  t_walls post) {p : Program} {e : Env} {s : State} {m : MethodId} {args : Array Value} {below : List Frame} {meth : Method} {c : Code} {Q : State → Prop} {A : Nat → Prop} {H0 : Heap} (X : WCtx p s m args c cX1_sides 1 wsX1_sides RX1 H0 A D (tyL cI cC cB cS)) (hret : ∀ {pc : Nat} {ls : Array Slot} {H : Heap} {locs : List Loc} {r : Int32} (u : Unit), decode cX1_sides pc = .ok (.ireturn, 1) → post r  → va_P D vwCl (wX1_sides cI cC cB cS a_t a_t_kinds a_t_hours a_t_lands a_t_owners a_t_treeWalls a_t_treePlaces t_families t_walls t_trees) H → va_D A (wX1_sides cI cC cB cS a_t a_t_kinds a_t_hours a_t_lands a_t_owners a_t_treeWalls a_t_treePlaces t_families t_walls t_trees) → va_S A H0 H locs → W p l e rmX1_sides s m args below meth c H locs 0 0 Q (F0 m pc ls [.int r])) {H : Heap} {locs : List Loc} {ls : Array Slot} (hP : va_P D vwCl (wX1_sides cI cC cB cS a_t a_t_kinds a_t_hours a_t_lands a_t_owners a_t_treeWalls a_t_treePlaces t_families t_walls t_trees) H) (hD : va_D A (wX1_sides cI cC cB cS a_t a_t_kinds a_t_hours a_t_lands a_t_owners a_t_treeWalls a_t_treePlaces t_families t_walls t_trees)) (hS : va_S A H0 H locs) (hl : lv_has ls 1 [(0, .ref a_t)]) : W p l e rmX1_sides s m args below meth c H locs 0 0 Q (F0 m 0 ls []) := by
  obtain ⟨⟨hx, hb, hml, hown, hts⟩, hA, hK, hN⟩ := id X
  unfold P_X1_sides at hp
  refine lv_iconst (v := 2) hx hb dX1_sides_0 (by decide) ?_
  refine lv_aload_n hx hb dX1_sides_1 rfl (lv_at hl 0 rfl) ?_
  refine va_get (D := D) (ci := 1) (v := .int t_walls) (C := RX1) (T := TX1) (N := 9) hx hb hts in_X1_sides_X1 hown hK hP 0 rfl rfl 1 (by decide) (hts _ m_X1_sides_f34) (fun _ h9 => h9) rfl dX1_sides_2 ?_
  refine lv_imul hx hb dX1_sides_5 ?_
  exact hret () dX1_sides_6 hp hP hD hS
theorem c_X1_sides (l : Launch) (D : va_G) (cI cC cB cS : ClassId) (a_t a_t_kinds a_t_hours a_t_lands a_t_owners a_t_treeWalls a_t_treePlaces : Nat) (t_families : Int32) (t_walls : Int32) (t_trees : Int32)  {post : Int32 → Prop} (hp : P_X1_sides  t_walls post) : CtrI l yX1_sides wsX1_sides rmX1_sides D (tyL cI cC cB cS) [.ref a_t] (wX1_sides cI cC cB cS a_t a_t_kinds a_t_hours a_t_lands a_t_owners a_t_treeWalls a_t_treePlaces t_families t_walls t_trees) (fun r (u : Unit) => post r ) (fun u => (wX1_sides cI cC cB cS a_t a_t_kinds a_t_hours a_t_lands a_t_owners a_t_treeWalls a_t_treePlaces t_families t_walls t_trees)) 0 0 :=
  ctrI_of (cc := cX1_sides) (maxL := 1) (by decide) rfl (Nat.le_of_ble_eq_true rfl) (fun X hret _ _ _ hP hD hS hl => k_X1_sides l D cI cC cB cS a_t a_t_kinds a_t_hours a_t_lands a_t_owners a_t_treeWalls a_t_treePlaces t_families t_walls t_trees hp X hret hP hD hS hl)
-- does(LLeaningWalls$County;I)I
abbrev rmX6_does : Room := { frames := 0, cells := 0, slots := 0, locals := 0 }
abbrev wX6_does (cI cC cB cS : ClassId) (a_t a_t_land a_t_places a_t_shares a_t_did a_p1 a_p1_kinds a_p1_hours a_p1_lands a_p1_owners a_p1_treeWalls a_p1_treePlaces : Nat) (t_days : Int32) (t_sickBits : Int32) (p1_families : Int32) (p1_walls : Int32) (p1_trees : Int32) (p1_owners : Nat → Int32) (t_shares : Nat → Int32) (p1_kinds : Nat → Int32) (t_land : Nat → Int32) : va_W := [(a_t, .inr (6, [.int t_days, .int t_sickBits, .ref a_t_land, .ref a_t_places, .ref a_t_shares, .ref a_t_did])), (a_p1, .inr (1, [.int p1_families, .int p1_walls, .int p1_trees, .ref a_p1_kinds, .ref a_p1_hours, .ref a_p1_lands, .ref a_p1_owners, .ref a_p1_treeWalls, .ref a_p1_treePlaces])), (a_p1_owners, .inl (cI, 18, .inl p1_owners)), (a_t_shares, .inl (cI, 18, .inl t_shares)), (a_p1_kinds, .inl (cI, 6, .inl p1_kinds)), (a_t_land, .inl (cI, 6, .inl t_land))]
theorem hNm_X6_does : hNm yX6_does 2 := by decide +kernel
theorem m_X6_does_f69 : Cond.fieldLink RX6 69 "LeaningWalls$County" "kinds" "[I" ∈ wsX6_does := by decide +kernel
theorem in_X6_does_X1 : ∀ w ∈ wsX10, w ∈ wsX6_does := by decide +kernel
theorem m_X6_does_f9 : Cond.fieldLink RX6 9 "LeaningWalls$Stand" "land" "[I" ∈ wsX6_does := by decide +kernel
theorem in_X6_does_X6 : ∀ w ∈ wsX60, w ∈ wsX6_does := by decide +kernel
theorem m_X6_does_f24 : Cond.fieldLink RX6 24 "LeaningWalls$Stand" "days" "I" ∈ wsX6_does := by decide +kernel
theorem m_X6_does_f60 : Cond.fieldLink RX6 60 "LeaningWalls$County" "owners" "[I" ∈ wsX6_does := by decide +kernel
theorem m_X6_does_f18 : Cond.fieldLink RX6 18 "LeaningWalls$Stand" "shares" "[I" ∈ wsX6_does := by decide +kernel
theorem m_X6_does_f28 : Cond.fieldLink RX6 28 "LeaningWalls$Stand" "sickBits" "I" ∈ wsX6_does := by decide +kernel
def P_X6_does_b46 (t_days : Int32) (t_sickBits : Int32) (p1_owners : Nat → Int32) (t_shares : Nat → Int32) (p1_kinds : Nat → Int32) (t_land : Nat → Int32)  (post : Int32 → Prop) (x3 : Int32) (x4 : Int32) (y0 : Int32) : Prop := vp_in x3 6 ∧ (((p1_kinds x3.toNatClampNeg).toInt < 0 ∨ 4 < (p1_kinds x3.toNatClampNeg).toInt → post (0 : Int32)) ∧ ((p1_kinds x3.toNatClampNeg).toInt = 0 → (y0 = 0 → post x4) ∧ (¬ y0 = 0 → post (0 : Int32))) ∧ ((p1_kinds x3.toNatClampNeg).toInt = 1 → post (0 : Int32)) ∧ ((p1_kinds x3.toNatClampNeg).toInt = 2 → (y0 = 0 → post x4) ∧ (¬ y0 = 0 → post ((2 : Int32) * x4))) ∧ ((p1_kinds x3.toNatClampNeg).toInt = 3 → (y0 = 0 → post (x4 + (1 : Int32))) ∧ (¬ y0 = 0 → post (1 : Int32))) ∧ ((p1_kinds x3.toNatClampNeg).toInt = 4 → (y0 = 0 → vp_in x3 6 ∧ (((t_land x3.toNatClampNeg) < (10 : Int32) → post x4) ∧ (¬ (t_land x3.toNatClampNeg) < (10 : Int32) → ((2 : Int32) ≤ x4 → post x4) ∧ (¬ (2 : Int32) ≤ x4 → post (2 : Int32))))) ∧ (¬ y0 = 0 → post (0 : Int32))))
def P_X6_does (x2 : Int32) (t_days : Int32) (t_sickBits : Int32) (p1_owners : Nat → Int32) (t_shares : Nat → Int32) (p1_kinds : Nat → Int32) (t_land : Nat → Int32) (post : Int32 → Prop) : Prop := ¬ (7 : Int32) = 0 ∧ ((¬ (t_days - t_days / (7 : Int32) * (7 : Int32)) = (6 : Int32) → vp_in x2 18 ∧ (vp_in x2 18 ∧ ((¬ ((t_sickBits >>> ((p1_owners x2.toNatClampNeg) &&& 31)) &&& (1 : Int32)) = (1 : Int32) → P_X6_does_b46 t_days t_sickBits p1_owners t_shares p1_kinds t_land post (p1_owners x2.toNatClampNeg) (t_shares x2.toNatClampNeg) (0 : Int32)) ∧ (((t_sickBits >>> ((p1_owners x2.toNatClampNeg) &&& 31)) &&& (1 : Int32)) = (1 : Int32) → P_X6_does_b46 t_days t_sickBits p1_owners t_shares p1_kinds t_land post (p1_owners x2.toNatClampNeg) (t_shares x2.toNatClampNeg) (1 : Int32))))) ∧ ((t_days - t_days / (7 : Int32) * (7 : Int32)) = (6 : Int32) → post (0 : Int32)))
set_option maxHeartbeats 4000000 in
set_option maxRecDepth 100000 in
theorem k_X6_does (l : Launch) (D : va_G) (cI cC cB cS : ClassId) (a_t a_t_land a_t_places a_t_shares a_t_did a_p1 a_p1_kinds a_p1_hours a_p1_lands a_p1_owners a_p1_treeWalls a_p1_treePlaces : Nat) (t_days : Int32) (t_sickBits : Int32) (p1_families : Int32) (p1_walls : Int32) (p1_trees : Int32) (p1_owners : Nat → Int32) (t_shares : Nat → Int32) (p1_kinds : Nat → Int32) (t_land : Nat → Int32) (x2 : Int32) {post : Int32 → Prop} (hp : P_X6_does x2 t_days t_sickBits p1_owners t_shares p1_kinds t_land post) {p : Program} {e : Env} {s : State} {m : MethodId} {args : Array Value} {below : List Frame} {meth : Method} {c : Code} {Q : State → Prop} {A : Nat → Prop} {H0 : Heap} (X : WCtx p s m args c cX6_does 6 wsX6_does RX6 H0 A D (tyL cI cC cB cS)) (hret : ∀ {pc : Nat} {ls : Array Slot} {H : Heap} {locs : List Loc} {r : Int32} (u : Unit), decode cX6_does pc = .ok (.ireturn, 1) → post r  → va_P D vwCl (wX6_does cI cC cB cS a_t a_t_land a_t_places a_t_shares a_t_did a_p1 a_p1_kinds a_p1_hours a_p1_lands a_p1_owners a_p1_treeWalls a_p1_treePlaces t_days t_sickBits p1_families p1_walls p1_trees p1_owners t_shares p1_kinds t_land) H → va_D A (wX6_does cI cC cB cS a_t a_t_land a_t_places a_t_shares a_t_did a_p1 a_p1_kinds a_p1_hours a_p1_lands a_p1_owners a_p1_treeWalls a_p1_treePlaces t_days t_sickBits p1_families p1_walls p1_trees p1_owners t_shares p1_kinds t_land) → va_S A H0 H locs → W p l e rmX6_does s m args below meth c H locs 0 0 Q (F0 m pc ls [.int r])) {H : Heap} {locs : List Loc} {ls : Array Slot} (hP : va_P D vwCl (wX6_does cI cC cB cS a_t a_t_land a_t_places a_t_shares a_t_did a_p1 a_p1_kinds a_p1_hours a_p1_lands a_p1_owners a_p1_treeWalls a_p1_treePlaces t_days t_sickBits p1_families p1_walls p1_trees p1_owners t_shares p1_kinds t_land) H) (hD : va_D A (wX6_does cI cC cB cS a_t a_t_land a_t_places a_t_shares a_t_did a_p1 a_p1_kinds a_p1_hours a_p1_lands a_p1_owners a_p1_treeWalls a_p1_treePlaces t_days t_sickBits p1_families p1_walls p1_trees p1_owners t_shares p1_kinds t_land)) (hS : va_S A H0 H locs) (hl : lv_has ls 6 [(0, .ref a_t), (1, .ref a_p1), (2, .int x2)]) : W p l e rmX6_does s m args below meth c H locs 0 0 Q (F0 m 0 ls []) := by
  obtain ⟨⟨hx, hb, hml, hown, hts⟩, hA, hK, hN⟩ := id X
  have J46 : ∀ (x3 : Int32) (x4 : Int32) (y0 : Int32)  (H : Heap) (locs : List Loc), va_P D vwCl (wX6_does cI cC cB cS a_t a_t_land a_t_places a_t_shares a_t_did a_p1 a_p1_kinds a_p1_hours a_p1_lands a_p1_owners a_p1_treeWalls a_p1_treePlaces t_days t_sickBits p1_families p1_walls p1_trees p1_owners t_shares p1_kinds t_land) H → va_D A (wX6_does cI cC cB cS a_t a_t_land a_t_places a_t_shares a_t_did a_p1 a_p1_kinds a_p1_hours a_p1_lands a_p1_owners a_p1_treeWalls a_p1_treePlaces t_days t_sickBits p1_families p1_walls p1_trees p1_owners t_shares p1_kinds t_land) → va_S A H0 H locs → P_X6_does_b46 t_days t_sickBits p1_owners t_shares p1_kinds t_land post x3 x4 y0 → ∀ ls : Array Slot, lv_has ls 6 [(0, .ref a_t), (1, .ref a_p1), (3, .int x3), (4, .int x4)] → W p l e rmX6_does s m args below meth c H locs 0 0 Q (F0 m 46 ls [.int y0]) := by
    intro x3 x4 y0 H locs hP hD hS hp ls hl
    unfold P_X6_does_b46 at hp
    refine lv_istore (lv' := [(5, .int y0), (0, .ref a_t), (1, .ref a_p1), (3, .int x3), (4, .int x4)]) hx hb dX6_does_46 hl (by decide) rfl (fun ls hl => ?_)
    refine lv_aload_n hx hb dX6_does_48 rfl (lv_at hl 2 rfl) ?_
    refine va_get (D := D) (ci := 1) (v := .ref a_p1_kinds) (C := RX1) (T := TX1) (N := 9) hx hb hts in_X6_does_X1 hown hK hP 1 rfl rfl 3 (by decide) (hts _ m_X6_does_f69) (fun _ h9 => h9) rfl dX6_does_49 ?_
    refine lv_iload_n hx hb dX6_does_52 rfl (lv_at hl 3 rfl) ?_
    obtain ⟨hi, hp⟩ := hp
    refine va_iald (D := D) hx hb hK hP 4 0 rfl rfl hi dX6_does_53 ?_
    by_cases hsw : (p1_kinds x3.toNatClampNeg).toInt < 0 ∨ 4 < (p1_kinds x3.toNatClampNeg).toInt
    · have hp := hp.1 hsw
      refine lv_tableOut (tgt := 160) hx hb dX6_does_54 hsw (by decide) ?_
      refine lv_iconst (v := 0) hx hb dX6_does_160 (by decide) ?_
      exact hret () dX6_does_161 hp hP hD hS
    · have hsv : (p1_kinds x3.toNatClampNeg).toInt = 0 ∨ (p1_kinds x3.toNatClampNeg).toInt = 1 ∨ (p1_kinds x3.toNatClampNeg).toInt = 2 ∨ (p1_kinds x3.toNatClampNeg).toInt = 3 ∨ (p1_kinds x3.toNatClampNeg).toInt = 4 := by omega
      rcases hsv with hsv | hsv | hsv | hsv | hsv
      · have hp := hp.2.1 hsv
        refine lv_tableIn (off := 34) (tgt := 88) hx hb dX6_does_54 (by omega) (by omega) (by rw [hsv]; rfl) (by decide) ?_
        refine lv_iload hx hb dX6_does_88 (lv_at hl 0 rfl) ?_
        refine lv_if_eq (tgt := 97) hx hb dX6_does_90 (by decide) (fun hc => ?_) (fun hc => ?_)
        · have hp := hp.1 hc
          refine lv_iload hx hb dX6_does_97 (lv_at hl 4 rfl) ?_
          exact hret () dX6_does_99 hp hP hD hS
        · have hp := hp.2 hc
          refine lv_iconst (v := 0) hx hb dX6_does_93 (by decide) ?_
          refine lv_goto (tgt := 99) hx hb dX6_does_94 (by decide) ?_
          exact hret () dX6_does_99 hp hP hD hS
      · have hp := hp.2.2.1 hsv
        refine lv_tableIn (off := 106) (tgt := 160) hx hb dX6_does_54 (by omega) (by omega) (by rw [hsv]; rfl) (by decide) ?_
        refine lv_iconst (v := 0) hx hb dX6_does_160 (by decide) ?_
        exact hret () dX6_does_161 hp hP hD hS
      · have hp := hp.2.2.2.1 hsv
        refine lv_tableIn (off := 46) (tgt := 100) hx hb dX6_does_54 (by omega) (by omega) (by rw [hsv]; rfl) (by decide) ?_
        refine lv_iload hx hb dX6_does_100 (lv_at hl 0 rfl) ?_
        refine lv_if_eq (tgt := 112) hx hb dX6_does_102 (by decide) (fun hc => ?_) (fun hc => ?_)
        · have hp := hp.1 hc
          refine lv_iload hx hb dX6_does_112 (lv_at hl 4 rfl) ?_
          exact hret () dX6_does_114 hp hP hD hS
        · have hp := hp.2 hc
          refine lv_iconst (v := 2) hx hb dX6_does_105 (by decide) ?_
          refine lv_iload hx hb dX6_does_106 (lv_at hl 4 rfl) ?_
          refine lv_imul hx hb dX6_does_108 ?_
          refine lv_goto (tgt := 114) hx hb dX6_does_109 (by decide) ?_
          exact hret () dX6_does_114 hp hP hD hS
      · have hp := hp.2.2.2.2.1 hsv
        refine lv_tableIn (off := 61) (tgt := 115) hx hb dX6_does_54 (by omega) (by omega) (by rw [hsv]; rfl) (by decide) ?_
        refine lv_iload hx hb dX6_does_115 (lv_at hl 0 rfl) ?_
        refine lv_if_eq (tgt := 124) hx hb dX6_does_117 (by decide) (fun hc => ?_) (fun hc => ?_)
        · have hp := hp.1 hc
          refine lv_iload hx hb dX6_does_124 (lv_at hl 4 rfl) ?_
          refine lv_iconst (v := 1) hx hb dX6_does_126 (by decide) ?_
          refine lv_iadd hx hb dX6_does_127 ?_
          exact hret () dX6_does_128 hp hP hD hS
        · have hp := hp.2 hc
          refine lv_iconst (v := 1) hx hb dX6_does_120 (by decide) ?_
          refine lv_goto (tgt := 128) hx hb dX6_does_121 (by decide) ?_
          exact hret () dX6_does_128 hp hP hD hS
      · have hp := hp.2.2.2.2.2 hsv
        refine lv_tableIn (off := 75) (tgt := 129) hx hb dX6_does_54 (by omega) (by omega) (by rw [hsv]; rfl) (by decide) ?_
        refine lv_iload hx hb dX6_does_129 (lv_at hl 0 rfl) ?_
        refine lv_if_eq (tgt := 136) hx hb dX6_does_131 (by decide) (fun hc => ?_) (fun hc => ?_)
        · have hp := hp.1 hc
          refine lv_aload_n hx hb dX6_does_136 rfl (lv_at hl 1 rfl) ?_
          refine va_get (D := D) (ci := 6) (v := .ref a_t_land) (C := RX6) (T := TX6) (N := 6) hx hb hts in_X6_does_X6 hown hK hP 0 rfl rfl 2 (by decide) (hts _ m_X6_does_f9) (fun _ h9 => h9) rfl dX6_does_137 ?_
          refine lv_iload_n hx hb dX6_does_140 rfl (lv_at hl 3 rfl) ?_
          obtain ⟨hi, hp⟩ := hp
          refine va_iald (D := D) hx hb hK hP 5 0 rfl rfl hi dX6_does_141 ?_
          refine lv_bipush (v := 10) hx hb dX6_does_142 (by decide) ?_
          refine lv_icmp_lt (tgt := 157) hx hb dX6_does_144 (by decide) (fun hc => ?_) (fun hc => ?_)
          · have hp := hp.1 hc
            refine lv_iload hx hb dX6_does_157 (lv_at hl 4 rfl) ?_
            exact hret () dX6_does_159 hp hP hD hS
          · have hp := hp.2 hc
            refine lv_iload hx hb dX6_does_147 (lv_at hl 4 rfl) ?_
            refine lv_iconst (v := 2) hx hb dX6_does_149 (by decide) ?_
            refine lv_icmp_ge (tgt := 157) hx hb dX6_does_150 (by decide) (fun hc => ?_) (fun hc => ?_)
            · have hp := hp.1 hc
              refine lv_iload hx hb dX6_does_157 (lv_at hl 4 rfl) ?_
              exact hret () dX6_does_159 hp hP hD hS
            · have hp := hp.2 hc
              refine lv_iconst (v := 2) hx hb dX6_does_153 (by decide) ?_
              refine lv_goto (tgt := 159) hx hb dX6_does_154 (by decide) ?_
              exact hret () dX6_does_159 hp hP hD hS
        · have hp := hp.2 hc
          refine lv_iconst (v := 0) hx hb dX6_does_134 (by decide) ?_
          exact hret () dX6_does_135 hp hP hD hS
  unfold P_X6_does at hp
  refine lv_aload_n hx hb dX6_does_0 rfl (lv_at hl 0 rfl) ?_
  refine va_get (D := D) (ci := 6) (v := .int t_days) (C := RX6) (T := TX6) (N := 6) hx hb hts in_X6_does_X6 hown hK hP 0 rfl rfl 0 (by decide) (hts _ m_X6_does_f24) (fun _ h9 => h9) rfl dX6_does_1 ?_
  refine lv_bipush (v := 7) hx hb dX6_does_4 (by decide) ?_
  obtain ⟨hz, hp⟩ := hp
  refine lv_irem hx hb dX6_does_6 hz ?_
  refine lv_bipush (v := 6) hx hb dX6_does_7 (by decide) ?_
  refine lv_icmp_ne (tgt := 14) hx hb dX6_does_9 (by decide) (fun hc => ?_) (fun hc => ?_)
  · have hp := hp.1 hc
    refine lv_aload_n hx hb dX6_does_14 rfl (lv_at hl 1 rfl) ?_
    refine va_get (D := D) (ci := 1) (v := .ref a_p1_owners) (C := RX1) (T := TX1) (N := 9) hx hb hts in_X6_does_X1 hown hK hP 1 rfl rfl 6 (by decide) (hts _ m_X6_does_f60) (fun _ h9 => h9) rfl dX6_does_15 ?_
    refine lv_iload_n hx hb dX6_does_18 rfl (lv_at hl 2 rfl) ?_
    obtain ⟨hi, hp⟩ := hp
    refine va_iald (D := D) hx hb hK hP 2 0 rfl rfl hi dX6_does_19 ?_
    refine lv_istore_n (lv' := [(3, .int (p1_owners x2.toNatClampNeg)), (0, .ref a_t), (1, .ref a_p1), (2, .int x2)]) hx hb dX6_does_20 rfl hl (by decide) rfl (fun ls hl => ?_)
    refine lv_aload_n hx hb dX6_does_21 rfl (lv_at hl 1 rfl) ?_
    refine va_get (D := D) (ci := 6) (v := .ref a_t_shares) (C := RX6) (T := TX6) (N := 6) hx hb hts in_X6_does_X6 hown hK hP 0 rfl rfl 4 (by decide) (hts _ m_X6_does_f18) (fun _ h9 => h9) rfl dX6_does_22 ?_
    refine lv_iload_n hx hb dX6_does_25 rfl (lv_at hl 3 rfl) ?_
    obtain ⟨hi, hp⟩ := hp
    refine va_iald (D := D) hx hb hK hP 3 0 rfl rfl hi dX6_does_26 ?_
    refine lv_istore (lv' := [(4, .int (t_shares x2.toNatClampNeg)), (3, .int (p1_owners x2.toNatClampNeg)), (0, .ref a_t), (1, .ref a_p1), (2, .int x2)]) hx hb dX6_does_27 hl (by decide) rfl (fun ls hl => ?_)
    refine lv_aload_n hx hb dX6_does_29 rfl (lv_at hl 2 rfl) ?_
    refine va_get (D := D) (ci := 6) (v := .int t_sickBits) (C := RX6) (T := TX6) (N := 6) hx hb hts in_X6_does_X6 hown hK hP 0 rfl rfl 1 (by decide) (hts _ m_X6_does_f28) (fun _ h9 => h9) rfl dX6_does_30 ?_
    refine lv_iload_n hx hb dX6_does_33 rfl (lv_at hl 1 rfl) ?_
    refine lv_ishr hx hb dX6_does_34 ?_
    refine lv_iconst (v := 1) hx hb dX6_does_35 (by decide) ?_
    refine lv_iand hx hb dX6_does_36 ?_
    refine lv_iconst (v := 1) hx hb dX6_does_37 (by decide) ?_
    refine lv_icmp_ne (tgt := 45) hx hb dX6_does_38 (by decide) (fun hc => ?_) (fun hc => ?_)
    · have hp := hp.1 hc
      refine lv_iconst (v := 0) hx hb dX6_does_45 (by decide) ?_
      exact J46 (p1_owners x2.toNatClampNeg) (t_shares x2.toNatClampNeg) (0 : Int32) _ _ hP hD hS hp _ (lv_sub hl [2, 3, 1, 0] rfl)
    · have hp := hp.2 hc
      refine lv_iconst (v := 1) hx hb dX6_does_41 (by decide) ?_
      refine lv_goto (tgt := 46) hx hb dX6_does_42 (by decide) ?_
      exact J46 (p1_owners x2.toNatClampNeg) (t_shares x2.toNatClampNeg) (1 : Int32) _ _ hP hD hS hp _ (lv_sub hl [2, 3, 1, 0] rfl)
  · have hp := hp.2 hc
    refine lv_iconst (v := 0) hx hb dX6_does_12 (by decide) ?_
    exact hret () dX6_does_13 hp hP hD hS
theorem c_X6_does (l : Launch) (D : va_G) (cI cC cB cS : ClassId) (a_t a_t_land a_t_places a_t_shares a_t_did a_p1 a_p1_kinds a_p1_hours a_p1_lands a_p1_owners a_p1_treeWalls a_p1_treePlaces : Nat) (t_days : Int32) (t_sickBits : Int32) (p1_families : Int32) (p1_walls : Int32) (p1_trees : Int32) (p1_owners : Nat → Int32) (t_shares : Nat → Int32) (p1_kinds : Nat → Int32) (t_land : Nat → Int32) (x2 : Int32) {post : Int32 → Prop} (hp : P_X6_does x2 t_days t_sickBits p1_owners t_shares p1_kinds t_land post) : CtrI l yX6_does wsX6_does rmX6_does D (tyL cI cC cB cS) [.ref a_t, .ref a_p1, .int x2] (wX6_does cI cC cB cS a_t a_t_land a_t_places a_t_shares a_t_did a_p1 a_p1_kinds a_p1_hours a_p1_lands a_p1_owners a_p1_treeWalls a_p1_treePlaces t_days t_sickBits p1_families p1_walls p1_trees p1_owners t_shares p1_kinds t_land) (fun r (u : Unit) => post r ) (fun u => (wX6_does cI cC cB cS a_t a_t_land a_t_places a_t_shares a_t_did a_p1 a_p1_kinds a_p1_hours a_p1_lands a_p1_owners a_p1_treeWalls a_p1_treePlaces t_days t_sickBits p1_families p1_walls p1_trees p1_owners t_shares p1_kinds t_land)) 0 0 :=
  ctrI_of (cc := cX6_does) (maxL := 6) (by decide) rfl (Nat.le_of_ble_eq_true rfl) (fun X hret _ _ _ hP hD hS hl => k_X6_does l D cI cC cB cS a_t a_t_land a_t_places a_t_shares a_t_did a_p1 a_p1_kinds a_p1_hours a_p1_lands a_p1_owners a_p1_treeWalls a_p1_treePlaces t_days t_sickBits p1_families p1_walls p1_trees p1_owners t_shares p1_kinds t_land x2 hp X hret hP hD hS hl)
-- losingSide(LLeaningWalls$County;III)I
abbrev rmX6_losingSide : Room := { frames := 0, cells := 0, slots := 0, locals := 0 }
abbrev wX6_losingSide (cI cC cB cS : ClassId) (a_t a_t_land a_t_places a_t_shares a_t_did a_p1 a_p1_kinds a_p1_hours a_p1_lands a_p1_owners a_p1_treeWalls a_p1_treePlaces : Nat) (t_days : Int32) (t_sickBits : Int32) (p1_families : Int32) (p1_walls : Int32) (p1_trees : Int32) (p1_owners : Nat → Int32) (t_land : Nat → Int32) : va_W := [(a_t, .inr (6, [.int t_days, .int t_sickBits, .ref a_t_land, .ref a_t_places, .ref a_t_shares, .ref a_t_did])), (a_p1, .inr (1, [.int p1_families, .int p1_walls, .int p1_trees, .ref a_p1_kinds, .ref a_p1_hours, .ref a_p1_lands, .ref a_p1_owners, .ref a_p1_treeWalls, .ref a_p1_treePlaces])), (a_p1_owners, .inl (cI, 18, .inl p1_owners)), (a_t_land, .inl (cI, 6, .inl t_land))]
theorem hNm_X6_losingSide : hNm yX6_losingSide 4 := by decide +kernel
theorem m_X6_losingSide_f9 : Cond.fieldLink RX6 9 "LeaningWalls$Stand" "land" "[I" ∈ wsX6_losingSide := by decide +kernel
theorem in_X6_losingSide_X6 : ∀ w ∈ wsX60, w ∈ wsX6_losingSide := by decide +kernel
theorem m_X6_losingSide_f60 : Cond.fieldLink RX6 60 "LeaningWalls$County" "owners" "[I" ∈ wsX6_losingSide := by decide +kernel
theorem in_X6_losingSide_X1 : ∀ w ∈ wsX10, w ∈ wsX6_losingSide := by decide +kernel
def P_X6_losingSide_b26 (p1_owners : Nat → Int32) (t_land : Nat → Int32)  (post : Int32 → Prop) (y0 : Int32) : Prop := vp_in y0 18 ∧ (vp_in (p1_owners y0.toNatClampNeg) 6 ∧ (((t_land (p1_owners y0.toNatClampNeg).toNatClampNeg) ≤ 0 → post (-4 : Int32)) ∧ (¬ (t_land (p1_owners y0.toNatClampNeg).toNatClampNeg) ≤ 0 → post y0)))
def P_X6_losingSide (x2 : Int32) (x3 : Int32) (x4 : Int32) (p1_owners : Nat → Int32) (t_land : Nat → Int32) (post : Int32 → Prop) : Prop := (¬ x3 = x4 → (x4 ≤ x3 → P_X6_losingSide_b26 p1_owners t_land post (((2 : Int32) * x2) + (1 : Int32))) ∧ (¬ x4 ≤ x3 → P_X6_losingSide_b26 p1_owners t_land post ((2 : Int32) * x2))) ∧ (x3 = x4 → post (-4 : Int32))
set_option maxHeartbeats 4000000 in
set_option maxRecDepth 100000 in
theorem k_X6_losingSide (l : Launch) (D : va_G) (cI cC cB cS : ClassId) (a_t a_t_land a_t_places a_t_shares a_t_did a_p1 a_p1_kinds a_p1_hours a_p1_lands a_p1_owners a_p1_treeWalls a_p1_treePlaces : Nat) (t_days : Int32) (t_sickBits : Int32) (p1_families : Int32) (p1_walls : Int32) (p1_trees : Int32) (p1_owners : Nat → Int32) (t_land : Nat → Int32) (x2 : Int32) (x3 : Int32) (x4 : Int32) {post : Int32 → Prop} (hp : P_X6_losingSide x2 x3 x4 p1_owners t_land post) {p : Program} {e : Env} {s : State} {m : MethodId} {args : Array Value} {below : List Frame} {meth : Method} {c : Code} {Q : State → Prop} {A : Nat → Prop} {H0 : Heap} (X : WCtx p s m args c cX6_losingSide 6 wsX6_losingSide RX6 H0 A D (tyL cI cC cB cS)) (hret : ∀ {pc : Nat} {ls : Array Slot} {H : Heap} {locs : List Loc} {r : Int32} (u : Unit), decode cX6_losingSide pc = .ok (.ireturn, 1) → post r  → va_P D vwCl (wX6_losingSide cI cC cB cS a_t a_t_land a_t_places a_t_shares a_t_did a_p1 a_p1_kinds a_p1_hours a_p1_lands a_p1_owners a_p1_treeWalls a_p1_treePlaces t_days t_sickBits p1_families p1_walls p1_trees p1_owners t_land) H → va_D A (wX6_losingSide cI cC cB cS a_t a_t_land a_t_places a_t_shares a_t_did a_p1 a_p1_kinds a_p1_hours a_p1_lands a_p1_owners a_p1_treeWalls a_p1_treePlaces t_days t_sickBits p1_families p1_walls p1_trees p1_owners t_land) → va_S A H0 H locs → W p l e rmX6_losingSide s m args below meth c H locs 0 0 Q (F0 m pc ls [.int r])) {H : Heap} {locs : List Loc} {ls : Array Slot} (hP : va_P D vwCl (wX6_losingSide cI cC cB cS a_t a_t_land a_t_places a_t_shares a_t_did a_p1 a_p1_kinds a_p1_hours a_p1_lands a_p1_owners a_p1_treeWalls a_p1_treePlaces t_days t_sickBits p1_families p1_walls p1_trees p1_owners t_land) H) (hD : va_D A (wX6_losingSide cI cC cB cS a_t a_t_land a_t_places a_t_shares a_t_did a_p1 a_p1_kinds a_p1_hours a_p1_lands a_p1_owners a_p1_treeWalls a_p1_treePlaces t_days t_sickBits p1_families p1_walls p1_trees p1_owners t_land)) (hS : va_S A H0 H locs) (hl : lv_has ls 6 [(0, .ref a_t), (1, .ref a_p1), (2, .int x2), (3, .int x3), (4, .int x4)]) : W p l e rmX6_losingSide s m args below meth c H locs 0 0 Q (F0 m 0 ls []) := by
  obtain ⟨⟨hx, hb, hml, hown, hts⟩, hA, hK, hN⟩ := id X
  have J26 : ∀ (y0 : Int32)  (H : Heap) (locs : List Loc), va_P D vwCl (wX6_losingSide cI cC cB cS a_t a_t_land a_t_places a_t_shares a_t_did a_p1 a_p1_kinds a_p1_hours a_p1_lands a_p1_owners a_p1_treeWalls a_p1_treePlaces t_days t_sickBits p1_families p1_walls p1_trees p1_owners t_land) H → va_D A (wX6_losingSide cI cC cB cS a_t a_t_land a_t_places a_t_shares a_t_did a_p1 a_p1_kinds a_p1_hours a_p1_lands a_p1_owners a_p1_treeWalls a_p1_treePlaces t_days t_sickBits p1_families p1_walls p1_trees p1_owners t_land) → va_S A H0 H locs → P_X6_losingSide_b26 p1_owners t_land post y0 → ∀ ls : Array Slot, lv_has ls 6 [(0, .ref a_t), (1, .ref a_p1)] → W p l e rmX6_losingSide s m args below meth c H locs 0 0 Q (F0 m 26 ls [.int y0]) := by
    intro y0 H locs hP hD hS hp ls hl
    unfold P_X6_losingSide_b26 at hp
    refine lv_istore (lv' := [(5, .int y0), (0, .ref a_t), (1, .ref a_p1)]) hx hb dX6_losingSide_26 hl (by decide) rfl (fun ls hl => ?_)
    refine lv_aload_n hx hb dX6_losingSide_28 rfl (lv_at hl 1 rfl) ?_
    refine va_get (D := D) (ci := 6) (v := .ref a_t_land) (C := RX6) (T := TX6) (N := 6) hx hb hts in_X6_losingSide_X6 hown hK hP 0 rfl rfl 2 (by decide) (hts _ m_X6_losingSide_f9) (fun _ h9 => h9) rfl dX6_losingSide_29 ?_
    refine lv_aload_n hx hb dX6_losingSide_32 rfl (lv_at hl 2 rfl) ?_
    refine va_get (D := D) (ci := 1) (v := .ref a_p1_owners) (C := RX1) (T := TX1) (N := 9) hx hb hts in_X6_losingSide_X1 hown hK hP 1 rfl rfl 6 (by decide) (hts _ m_X6_losingSide_f60) (fun _ h9 => h9) rfl dX6_losingSide_33 ?_
    refine lv_iload hx hb dX6_losingSide_36 (lv_at hl 0 rfl) ?_
    obtain ⟨hi, hp⟩ := hp
    refine va_iald (D := D) hx hb hK hP 2 0 rfl rfl hi dX6_losingSide_38 ?_
    obtain ⟨hi, hp⟩ := hp
    refine va_iald (D := D) hx hb hK hP 3 0 rfl rfl hi dX6_losingSide_39 ?_
    refine lv_if_le (tgt := 48) hx hb dX6_losingSide_40 (by decide) (fun hc => ?_) (fun hc => ?_)
    · have hp := hp.1 hc
      refine lv_bipush (v := -4) hx hb dX6_losingSide_48 (by decide) ?_
      exact hret () dX6_losingSide_50 hp hP hD hS
    · have hp := hp.2 hc
      refine lv_iload hx hb dX6_losingSide_43 (lv_at hl 0 rfl) ?_
      refine lv_goto (tgt := 50) hx hb dX6_losingSide_45 (by decide) ?_
      exact hret () dX6_losingSide_50 hp hP hD hS
  unfold P_X6_losingSide at hp
  refine lv_iload_n hx hb dX6_losingSide_0 rfl (lv_at hl 3 rfl) ?_
  refine lv_iload hx hb dX6_losingSide_1 (lv_at hl 4 rfl) ?_
  refine lv_icmp_ne (tgt := 9) hx hb dX6_losingSide_3 (by decide) (fun hc => ?_) (fun hc => ?_)
  · have hp := hp.1 hc
    refine lv_iload_n hx hb dX6_losingSide_9 rfl (lv_at hl 3 rfl) ?_
    refine lv_iload hx hb dX6_losingSide_10 (lv_at hl 4 rfl) ?_
    refine lv_icmp_ge (tgt := 21) hx hb dX6_losingSide_12 (by decide) (fun hc => ?_) (fun hc => ?_)
    · have hp := hp.1 hc
      refine lv_iconst (v := 2) hx hb dX6_losingSide_21 (by decide) ?_
      refine lv_iload_n hx hb dX6_losingSide_22 rfl (lv_at hl 2 rfl) ?_
      refine lv_imul hx hb dX6_losingSide_23 ?_
      refine lv_iconst (v := 1) hx hb dX6_losingSide_24 (by decide) ?_
      refine lv_iadd hx hb dX6_losingSide_25 ?_
      exact J26 (((2 : Int32) * x2) + (1 : Int32)) _ _ hP hD hS hp _ (lv_sub hl [0, 1] rfl)
    · have hp := hp.2 hc
      refine lv_iconst (v := 2) hx hb dX6_losingSide_15 (by decide) ?_
      refine lv_iload_n hx hb dX6_losingSide_16 rfl (lv_at hl 2 rfl) ?_
      refine lv_imul hx hb dX6_losingSide_17 ?_
      refine lv_goto (tgt := 26) hx hb dX6_losingSide_18 (by decide) ?_
      exact J26 ((2 : Int32) * x2) _ _ hP hD hS hp _ (lv_sub hl [0, 1] rfl)
  · have hp := hp.2 hc
    refine lv_bipush (v := -4) hx hb dX6_losingSide_6 (by decide) ?_
    exact hret () dX6_losingSide_8 hp hP hD hS
theorem c_X6_losingSide (l : Launch) (D : va_G) (cI cC cB cS : ClassId) (a_t a_t_land a_t_places a_t_shares a_t_did a_p1 a_p1_kinds a_p1_hours a_p1_lands a_p1_owners a_p1_treeWalls a_p1_treePlaces : Nat) (t_days : Int32) (t_sickBits : Int32) (p1_families : Int32) (p1_walls : Int32) (p1_trees : Int32) (p1_owners : Nat → Int32) (t_land : Nat → Int32) (x2 : Int32) (x3 : Int32) (x4 : Int32) {post : Int32 → Prop} (hp : P_X6_losingSide x2 x3 x4 p1_owners t_land post) : CtrI l yX6_losingSide wsX6_losingSide rmX6_losingSide D (tyL cI cC cB cS) [.ref a_t, .ref a_p1, .int x2, .int x3, .int x4] (wX6_losingSide cI cC cB cS a_t a_t_land a_t_places a_t_shares a_t_did a_p1 a_p1_kinds a_p1_hours a_p1_lands a_p1_owners a_p1_treeWalls a_p1_treePlaces t_days t_sickBits p1_families p1_walls p1_trees p1_owners t_land) (fun r (u : Unit) => post r ) (fun u => (wX6_losingSide cI cC cB cS a_t a_t_land a_t_places a_t_shares a_t_did a_p1 a_p1_kinds a_p1_hours a_p1_lands a_p1_owners a_p1_treeWalls a_p1_treePlaces t_days t_sickBits p1_families p1_walls p1_trees p1_owners t_land)) 0 0 :=
  ctrI_of (cc := cX6_losingSide) (maxL := 6) (by decide) rfl (Nat.le_of_ble_eq_true rfl) (fun X hret _ _ _ hP hD hS hl => k_X6_losingSide l D cI cC cB cS a_t a_t_land a_t_places a_t_shares a_t_did a_p1 a_p1_kinds a_p1_hours a_p1_lands a_p1_owners a_p1_treeWalls a_p1_treePlaces t_days t_sickBits p1_families p1_walls p1_trees p1_owners t_land x2 x3 x4 hp X hret hP hD hS hl)
-- goDay(LLeaningWalls$County;I)I
abbrev rmX6_goDay : Room := { frames := 1, cells := 0, slots := 0, locals := 25 }
abbrev wX6_goDay (cI cC cB cS : ClassId) (a_p1 a_p1_kinds a_p1_hours a_p1_lands a_p1_owners a_p1_treeWalls a_p1_treePlaces a_t a_t_land a_t_places a_t_shares a_t_did : Nat) (p1_families : Int32) (p1_walls : Int32) (p1_trees : Int32) (p1_owners : Nat → Int32) (t_days : Int32) (t_sickBits : Int32) (t_did : Nat → Int32) (t_shares : Nat → Int32) (p1_kinds : Nat → Int32) (t_land : Nat → Int32) (t_places : Nat → Int32) : va_W := [(a_p1, .inr (1, [.int p1_families, .int p1_walls, .int p1_trees, .ref a_p1_kinds, .ref a_p1_hours, .ref a_p1_lands, .ref a_p1_owners, .ref a_p1_treeWalls, .ref a_p1_treePlaces])), (a_p1_owners, .inl (cI, 18, .inl p1_owners)), (a_t, .inr (6, [.int t_days, .int t_sickBits, .ref a_t_land, .ref a_t_places, .ref a_t_shares, .ref a_t_did])), (a_t_did, .inl (cI, 18, .inl t_did)), (a_t_shares, .inl (cI, 18, .inl t_shares)), (a_p1_kinds, .inl (cI, 6, .inl p1_kinds)), (a_t_land, .inl (cI, 6, .inl t_land)), (a_t_places, .inl (cI, 9, .inl t_places))]
theorem hNm_X6_goDay : hNm yX6_goDay 2 := by decide +kernel
theorem m_X6_goDay_f76 : Cond.fieldLink RX6 76 "LeaningWalls$County" "walls" "I" ∈ wsX6_goDay := by decide +kernel
theorem in_X6_goDay_X1 : ∀ w ∈ wsX10, w ∈ wsX6_goDay := by decide +kernel
theorem m_X6_goDay_f21 : Cond.fieldLink RX6 21 "LeaningWalls$Stand" "did" "[I" ∈ wsX6_goDay := by decide +kernel
theorem in_X6_goDay_X6 : ∀ w ∈ wsX60, w ∈ wsX6_goDay := by decide +kernel
theorem m_X6_goDay_f9 : Cond.fieldLink RX6 9 "LeaningWalls$Stand" "land" "[I" ∈ wsX6_goDay := by decide +kernel
theorem m_X6_goDay_f60 : Cond.fieldLink RX6 60 "LeaningWalls$County" "owners" "[I" ∈ wsX6_goDay := by decide +kernel
theorem m_X6_goDay_f15 : Cond.fieldLink RX6 15 "LeaningWalls$Stand" "places" "[I" ∈ wsX6_goDay := by decide +kernel
theorem m_X6_goDay_f24 : Cond.fieldLink RX6 24 "LeaningWalls$Stand" "days" "I" ∈ wsX6_goDay := by decide +kernel
def P_X6_goDay_b179 (p1_walls : Int32) (p1_owners : Nat → Int32) (t_sickBits : Int32) (t_shares : Nat → Int32) (p1_kinds : Nat → Int32) (k73 : Int32 → Int32 → Int32 → (Nat → Int32) → (Nat → Int32) → (Nat → Int32) → Prop) (post : Int32 → Int32 → (Nat → Int32) → (Nat → Int32) → (Nat → Int32) → Prop) (x3 : Int32) (x4 : Int32) (t_days : Int32) (t_did : Nat → Int32) (t_land : Nat → Int32) (t_places : Nat → Int32) : Prop := k73 x3 (x4 + (1 : Int32)) t_days t_did t_land t_places
def P_X6_goDay_b174 (p1_walls : Int32) (p1_owners : Nat → Int32) (t_sickBits : Int32) (t_shares : Nat → Int32) (p1_kinds : Nat → Int32) (k73 : Int32 → Int32 → Int32 → (Nat → Int32) → (Nat → Int32) → (Nat → Int32) → Prop) (post : Int32 → Int32 → (Nat → Int32) → (Nat → Int32) → (Nat → Int32) → Prop) (x3 : Int32) (x4 : Int32) (y1 : Int32) (y2 : Int32) (y3 : Int32) (t_days : Int32) (t_did : Nat → Int32) (t_land : Nat → Int32) (t_places : Nat → Int32) : Prop := vp_in y1 9 ∧ (P_X6_goDay_b179 p1_walls p1_owners t_sickBits t_shares p1_kinds k73 post (x3 + (1 : Int32)) x4 t_days t_did t_land (upd t_places y1.toNatClampNeg (y2 + y3)))
def P_X6_goDay_L73 (p1_walls : Int32) (p1_owners : Nat → Int32) (t_sickBits : Int32) (t_shares : Nat → Int32) (p1_kinds : Nat → Int32)  (post : Int32 → Int32 → (Nat → Int32) → (Nat → Int32) → (Nat → Int32) → Prop) : Nat → Int32 → Int32 → Int32 → (Nat → Int32) → (Nat → Int32) → (Nat → Int32) → Prop
  | 0, _, _, _, _, _, _ => False
  | n + 1, x3, x4, t_days, t_did, t_land, t_places => (p1_walls ≤ x4 → post x3 t_days t_did t_land t_places) ∧ (¬ p1_walls ≤ x4 → vp_in ((2 : Int32) * x4) 18 ∧ (vp_in (((2 : Int32) * x4) + (1 : Int32)) 18 ∧ (P_X6_losingSide x4 (t_did ((2 : Int32) * x4).toNatClampNeg) (t_did (((2 : Int32) * x4) + (1 : Int32)).toNatClampNeg) p1_owners t_land (fun r106 => (r106 = (-4 : Int32) → P_X6_goDay_b179 p1_walls p1_owners t_sickBits t_shares p1_kinds (P_X6_goDay_L73 p1_walls p1_owners t_sickBits t_shares p1_kinds post n) post x3 x4 t_days t_did t_land t_places) ∧ (¬ r106 = (-4 : Int32) → vp_in r106 18 ∧ (vp_in (p1_owners r106.toNatClampNeg) 6 ∧ (vp_in (p1_owners r106.toNatClampNeg) 6 ∧ (vp_in (r106 ^^^ (1 : Int32)) 18 ∧ (vp_in (p1_owners (r106 ^^^ (1 : Int32)).toNatClampNeg) 6 ∧ (vp_in (p1_owners (r106 ^^^ (1 : Int32)).toNatClampNeg) 6 ∧ (vp_in x4 9 ∧ ((¬ r106 = ((2 : Int32) * x4) → P_X6_goDay_b174 p1_walls p1_owners t_sickBits t_shares p1_kinds (P_X6_goDay_L73 p1_walls p1_owners t_sickBits t_shares p1_kinds post n) post x3 x4 x4 (t_places x4.toNatClampNeg) (1 : Int32) t_days t_did (upd (upd t_land (p1_owners r106.toNatClampNeg).toNatClampNeg ((t_land (p1_owners r106.toNatClampNeg).toNatClampNeg) - (1 : Int32))) (p1_owners (r106 ^^^ (1 : Int32)).toNatClampNeg).toNatClampNeg (((upd t_land (p1_owners r106.toNatClampNeg).toNatClampNeg ((t_land (p1_owners r106.toNatClampNeg).toNatClampNeg) - (1 : Int32))) (p1_owners (r106 ^^^ (1 : Int32)).toNatClampNeg).toNatClampNeg) + (1 : Int32))) t_places) ∧ (r106 = ((2 : Int32) * x4) → P_X6_goDay_b174 p1_walls p1_owners t_sickBits t_shares p1_kinds (P_X6_goDay_L73 p1_walls p1_owners t_sickBits t_shares p1_kinds post n) post x3 x4 x4 (t_places x4.toNatClampNeg) (-1 : Int32) t_days t_did (upd (upd t_land (p1_owners r106.toNatClampNeg).toNatClampNeg ((t_land (p1_owners r106.toNatClampNeg).toNatClampNeg) - (1 : Int32))) (p1_owners (r106 ^^^ (1 : Int32)).toNatClampNeg).toNatClampNeg (((upd t_land (p1_owners r106.toNatClampNeg).toNatClampNeg ((t_land (p1_owners r106.toNatClampNeg).toNatClampNeg) - (1 : Int32))) (p1_owners (r106 ^^^ (1 : Int32)).toNatClampNeg).toNatClampNeg) + (1 : Int32))) t_places)))))))))))))
def P_X6_goDay_b51 (p1_walls : Int32) (p1_owners : Nat → Int32) (t_sickBits : Int32) (t_shares : Nat → Int32) (p1_kinds : Nat → Int32) (k2 : Int32 → Int32 → Int32 → (Nat → Int32) → (Nat → Int32) → (Nat → Int32) → Prop) (post : Int32 → Int32 → (Nat → Int32) → (Nat → Int32) → (Nat → Int32) → Prop) (x2 : Int32) (x3 : Int32) (y1 : Int32) (y2 : Int32) (t_days : Int32) (t_did : Nat → Int32) (t_land : Nat → Int32) (t_places : Nat → Int32) : Prop := vp_in y1 18 ∧ (k2 x2 (x3 + (1 : Int32)) t_days (upd t_did y1.toNatClampNeg y2) t_land t_places)
def P_X6_goDay_b29 (p1_walls : Int32) (p1_owners : Nat → Int32) (t_sickBits : Int32) (t_shares : Nat → Int32) (p1_kinds : Nat → Int32) (k2 : Int32 → Int32 → Int32 → (Nat → Int32) → (Nat → Int32) → (Nat → Int32) → Prop) (post : Int32 → Int32 → (Nat → Int32) → (Nat → Int32) → (Nat → Int32) → Prop) (x2 : Int32) (x3 : Int32) (y0 : Int32) (t_days : Int32) (t_did : Nat → Int32) (t_land : Nat → Int32) (t_places : Nat → Int32) : Prop := (y0 = 0 → P_X6_does x3 t_days t_sickBits p1_owners t_shares p1_kinds t_land (fun r48 => P_X6_goDay_b51 p1_walls p1_owners t_sickBits t_shares p1_kinds k2 post x2 x3 x3 r48 t_days t_did t_land t_places)) ∧ (¬ y0 = 0 → P_X6_goDay_b51 p1_walls p1_owners t_sickBits t_shares p1_kinds k2 post x2 x3 x3 (0 : Int32) t_days t_did t_land t_places)
def P_X6_goDay_L2 (p1_walls : Int32) (p1_owners : Nat → Int32) (t_sickBits : Int32) (t_shares : Nat → Int32) (p1_kinds : Nat → Int32)  (post : Int32 → Int32 → (Nat → Int32) → (Nat → Int32) → (Nat → Int32) → Prop) : Nat → Int32 → Int32 → Int32 → (Nat → Int32) → (Nat → Int32) → (Nat → Int32) → Prop
  | 0, _, _, _, _, _, _ => False
  | n + 1, x2, x3, t_days, t_did, t_land, t_places => P_X1_sides p1_walls (fun r4 => (r4 ≤ x3 → ∃ n : Nat, P_X6_goDay_L73 p1_walls p1_owners t_sickBits t_shares p1_kinds post n (0 : Int32) (0 : Int32) (t_days + (1 : Int32)) t_did t_land t_places) ∧ (¬ r4 ≤ x3 → vp_in x3 18 ∧ ((¬ ((x2 >>> ((p1_owners x3.toNatClampNeg) &&& 31)) &&& (1 : Int32)) = (1 : Int32) → P_X6_goDay_b29 p1_walls p1_owners t_sickBits t_shares p1_kinds (P_X6_goDay_L2 p1_walls p1_owners t_sickBits t_shares p1_kinds post n) post x2 x3 (0 : Int32) t_days t_did t_land t_places) ∧ (((x2 >>> ((p1_owners x3.toNatClampNeg) &&& 31)) &&& (1 : Int32)) = (1 : Int32) → P_X6_goDay_b29 p1_walls p1_owners t_sickBits t_shares p1_kinds (P_X6_goDay_L2 p1_walls p1_owners t_sickBits t_shares p1_kinds post n) post x2 x3 (1 : Int32) t_days t_did t_land t_places))))
def P_X6_goDay (x2 : Int32) (p1_walls : Int32) (p1_owners : Nat → Int32) (t_days : Int32) (t_sickBits : Int32) (t_did : Nat → Int32) (t_shares : Nat → Int32) (p1_kinds : Nat → Int32) (t_land : Nat → Int32) (t_places : Nat → Int32) (post : Int32 → Int32 → (Nat → Int32) → (Nat → Int32) → (Nat → Int32) → Prop) : Prop := ∃ n : Nat, P_X6_goDay_L2 p1_walls p1_owners t_sickBits t_shares p1_kinds post n x2 (0 : Int32) t_days t_did t_land t_places
set_option maxHeartbeats 4000000 in
set_option maxRecDepth 100000 in
theorem k_X6_goDay (l : Launch) (D : va_G) (cI cC cB cS : ClassId) (a_p1 a_p1_kinds a_p1_hours a_p1_lands a_p1_owners a_p1_treeWalls a_p1_treePlaces a_t a_t_land a_t_places a_t_shares a_t_did : Nat) (p1_families : Int32) (p1_walls : Int32) (p1_trees : Int32) (p1_owners : Nat → Int32) (t_days : Int32) (t_sickBits : Int32) (t_did : Nat → Int32) (t_shares : Nat → Int32) (p1_kinds : Nat → Int32) (t_land : Nat → Int32) (t_places : Nat → Int32) (x2 : Int32) {post : Int32 → Int32 → (Nat → Int32) → (Nat → Int32) → (Nat → Int32) → Prop} (hp : P_X6_goDay x2 p1_walls p1_owners t_days t_sickBits t_did t_shares p1_kinds t_land t_places post) {p : Program} {e : Env} {s : State} {m : MethodId} {args : Array Value} {below : List Frame} {meth : Method} {c : Code} {Q : State → Prop} {A : Nat → Prop} {H0 : Heap} (X : WCtx p s m args c cX6_goDay 6 wsX6_goDay RX6 H0 A D (tyL cI cC cB cS)) (hret : ∀ {pc : Nat} {ls : Array Slot} {H : Heap} {locs : List Loc} {r : Int32} (u : Int32 × (Nat → Int32) × (Nat → Int32) × (Nat → Int32)), decode cX6_goDay pc = .ok (.ireturn, 1) → post r u.1 u.2.1 u.2.2.1 u.2.2.2 → va_P D vwCl (wX6_goDay cI cC cB cS a_p1 a_p1_kinds a_p1_hours a_p1_lands a_p1_owners a_p1_treeWalls a_p1_treePlaces a_t a_t_land a_t_places a_t_shares a_t_did p1_families p1_walls p1_trees p1_owners u.1 t_sickBits u.2.1 t_shares p1_kinds u.2.2.1 u.2.2.2) H → va_D A (wX6_goDay cI cC cB cS a_p1 a_p1_kinds a_p1_hours a_p1_lands a_p1_owners a_p1_treeWalls a_p1_treePlaces a_t a_t_land a_t_places a_t_shares a_t_did p1_families p1_walls p1_trees p1_owners u.1 t_sickBits u.2.1 t_shares p1_kinds u.2.2.1 u.2.2.2) → va_S A H0 H locs → W p l e rmX6_goDay s m args below meth c H locs 0 0 Q (F0 m pc ls [.int r])) {H : Heap} {locs : List Loc} {ls : Array Slot} (hP : va_P D vwCl (wX6_goDay cI cC cB cS a_p1 a_p1_kinds a_p1_hours a_p1_lands a_p1_owners a_p1_treeWalls a_p1_treePlaces a_t a_t_land a_t_places a_t_shares a_t_did p1_families p1_walls p1_trees p1_owners t_days t_sickBits t_did t_shares p1_kinds t_land t_places) H) (hD : va_D A (wX6_goDay cI cC cB cS a_p1 a_p1_kinds a_p1_hours a_p1_lands a_p1_owners a_p1_treeWalls a_p1_treePlaces a_t a_t_land a_t_places a_t_shares a_t_did p1_families p1_walls p1_trees p1_owners t_days t_sickBits t_did t_shares p1_kinds t_land t_places)) (hS : va_S A H0 H locs) (hl : lv_has ls 6 [(0, .ref a_t), (1, .ref a_p1), (2, .int x2)]) : W p l e rmX6_goDay s m args below meth c H locs 0 0 Q (F0 m 0 ls []) := by
  obtain ⟨⟨hx, hb, hml, hown, hts⟩, hA, hK, hN⟩ := id X
  have L73 : ∀ (n73 : Nat) (x3 : Int32) (x4 : Int32) (t_days : Int32) (t_did : Nat → Int32) (t_land : Nat → Int32) (t_places : Nat → Int32)  (H : Heap) (locs : List Loc), va_P D vwCl (wX6_goDay cI cC cB cS a_p1 a_p1_kinds a_p1_hours a_p1_lands a_p1_owners a_p1_treeWalls a_p1_treePlaces a_t a_t_land a_t_places a_t_shares a_t_did p1_families p1_walls p1_trees p1_owners t_days t_sickBits t_did t_shares p1_kinds t_land t_places) H → va_D A (wX6_goDay cI cC cB cS a_p1 a_p1_kinds a_p1_hours a_p1_lands a_p1_owners a_p1_treeWalls a_p1_treePlaces a_t a_t_land a_t_places a_t_shares a_t_did p1_families p1_walls p1_trees p1_owners t_days t_sickBits t_did t_shares p1_kinds t_land t_places) → va_S A H0 H locs → P_X6_goDay_L73 p1_walls p1_owners t_sickBits t_shares p1_kinds post n73 x3 x4 t_days t_did t_land t_places → ∀ ls : Array Slot, lv_has ls 6 [(0, .ref a_t), (1, .ref a_p1), (3, .int x3), (4, .int x4)] → W p l e rmX6_goDay s m args below meth c H locs 0 0 Q (F0 m 73 ls []) := by
    intro n73
    induction n73 with
    | zero => intro x3 x4 t_days t_did t_land t_places H locs hP hD hS hp; exact False.elim hp
    | succ n73 ih73 =>
      have J179 : ∀ (x3 : Int32) (x4 : Int32) (t_days : Int32) (t_did : Nat → Int32) (t_land : Nat → Int32) (t_places : Nat → Int32)  (H : Heap) (locs : List Loc), va_P D vwCl (wX6_goDay cI cC cB cS a_p1 a_p1_kinds a_p1_hours a_p1_lands a_p1_owners a_p1_treeWalls a_p1_treePlaces a_t a_t_land a_t_places a_t_shares a_t_did p1_families p1_walls p1_trees p1_owners t_days t_sickBits t_did t_shares p1_kinds t_land t_places) H → va_D A (wX6_goDay cI cC cB cS a_p1 a_p1_kinds a_p1_hours a_p1_lands a_p1_owners a_p1_treeWalls a_p1_treePlaces a_t a_t_land a_t_places a_t_shares a_t_did p1_families p1_walls p1_trees p1_owners t_days t_sickBits t_did t_shares p1_kinds t_land t_places) → va_S A H0 H locs → P_X6_goDay_b179 p1_walls p1_owners t_sickBits t_shares p1_kinds (P_X6_goDay_L73 p1_walls p1_owners t_sickBits t_shares p1_kinds post n73) post x3 x4 t_days t_did t_land t_places → ∀ ls : Array Slot, lv_has ls 6 [(0, .ref a_t), (1, .ref a_p1), (3, .int x3), (4, .int x4)] → W p l e rmX6_goDay s m args below meth c H locs 0 0 Q (F0 m 179 ls []) := by
        intro x3 x4 t_days t_did t_land t_places H locs hP hD hS hp ls hl
        unfold P_X6_goDay_b179 at hp
        refine lv_iinc (v := x4 + (1 : Int32)) (lv' := [(4, .int (x4 + (1 : Int32))), (0, .ref a_t), (1, .ref a_p1), (3, .int x3)]) hx hb dX6_goDay_179 hl (k := 3) rfl rfl (by decide) rfl (fun ls hl => ?_)
        refine lv_goto (tgt := 73) hx hb dX6_goDay_182 (by decide) ?_
        exact ih73 x3 (x4 + (1 : Int32)) t_days t_did t_land t_places _ _ hP hD hS hp _ (lv_sub hl [1, 2, 3, 0] rfl)
      have J174 : ∀ (x3 : Int32) (x4 : Int32) (y1 : Int32) (y2 : Int32) (y3 : Int32) (t_days : Int32) (t_did : Nat → Int32) (t_land : Nat → Int32) (t_places : Nat → Int32)  (H : Heap) (locs : List Loc), va_P D vwCl (wX6_goDay cI cC cB cS a_p1 a_p1_kinds a_p1_hours a_p1_lands a_p1_owners a_p1_treeWalls a_p1_treePlaces a_t a_t_land a_t_places a_t_shares a_t_did p1_families p1_walls p1_trees p1_owners t_days t_sickBits t_did t_shares p1_kinds t_land t_places) H → va_D A (wX6_goDay cI cC cB cS a_p1 a_p1_kinds a_p1_hours a_p1_lands a_p1_owners a_p1_treeWalls a_p1_treePlaces a_t a_t_land a_t_places a_t_shares a_t_did p1_families p1_walls p1_trees p1_owners t_days t_sickBits t_did t_shares p1_kinds t_land t_places) → va_S A H0 H locs → P_X6_goDay_b174 p1_walls p1_owners t_sickBits t_shares p1_kinds (P_X6_goDay_L73 p1_walls p1_owners t_sickBits t_shares p1_kinds post n73) post x3 x4 y1 y2 y3 t_days t_did t_land t_places → ∀ ls : Array Slot, lv_has ls 6 [(0, .ref a_t), (1, .ref a_p1), (3, .int x3), (4, .int x4)] → W p l e rmX6_goDay s m args below meth c H locs 0 0 Q (F0 m 174 ls [.int y3, .int y2, .int y1, .ref a_t_places]) := by
        intro x3 x4 y1 y2 y3 t_days t_did t_land t_places H locs hP hD hS hp ls hl
        unfold P_X6_goDay_b174 at hp
        refine lv_iadd hx hb dX6_goDay_174 ?_
        obtain ⟨hi, hp⟩ := hp
        refine va_iast (D := D) hx hb hK hP hD hS 7 0 rfl rfl hi dX6_goDay_175 (fun H locs hP hD hS => ?_)
        have hP : va_P D vwCl (wX6_goDay cI cC cB cS a_p1 a_p1_kinds a_p1_hours a_p1_lands a_p1_owners a_p1_treeWalls a_p1_treePlaces a_t a_t_land a_t_places a_t_shares a_t_did p1_families p1_walls p1_trees p1_owners t_days t_sickBits t_did t_shares p1_kinds t_land (upd t_places y1.toNatClampNeg (y2 + y3))) H := hP
        have hD : va_D A (wX6_goDay cI cC cB cS a_p1 a_p1_kinds a_p1_hours a_p1_lands a_p1_owners a_p1_treeWalls a_p1_treePlaces a_t a_t_land a_t_places a_t_shares a_t_did p1_families p1_walls p1_trees p1_owners t_days t_sickBits t_did t_shares p1_kinds t_land (upd t_places y1.toNatClampNeg (y2 + y3))) := hD
        refine lv_iinc (v := x3 + (1 : Int32)) (lv' := [(3, .int (x3 + (1 : Int32))), (0, .ref a_t), (1, .ref a_p1), (4, .int x4)]) hx hb dX6_goDay_176 hl (k := 2) rfl rfl (by decide) rfl (fun ls hl => ?_)
        exact J179 (x3 + (1 : Int32)) x4 t_days t_did t_land (upd t_places y1.toNatClampNeg (y2 + y3)) _ _ hP hD hS hp _ (lv_sub hl [1, 2, 0, 3] rfl)
      intro x3 x4 t_days t_did t_land t_places H locs hP hD hS hp ls hl
      rw [P_X6_goDay_L73] at hp
      refine lv_iload hx hb dX6_goDay_73 (lv_at hl 3 rfl) ?_
      refine lv_aload_n hx hb dX6_goDay_75 rfl (lv_at hl 1 rfl) ?_
      refine va_get (D := D) (ci := 1) (v := .int p1_walls) (C := RX1) (T := TX1) (N := 9) hx hb hts in_X6_goDay_X1 hown hK hP 0 rfl rfl 1 (by decide) (hts _ m_X6_goDay_f76) (fun _ h9 => h9) rfl dX6_goDay_76 ?_
      refine lv_icmp_ge (tgt := 185) hx hb dX6_goDay_79 (by decide) (fun hc => ?_) (fun hc => ?_)
      · have hp := hp.1 hc
        refine lv_iload_n hx hb dX6_goDay_185 rfl (lv_at hl 2 rfl) ?_
        exact hret (t_days, t_did, t_land, t_places) dX6_goDay_186 hp hP hD hS
      · have hp := hp.2 hc
        refine lv_aload_n hx hb dX6_goDay_82 rfl (lv_at hl 0 rfl) ?_
        refine lv_aload_n hx hb dX6_goDay_83 rfl (lv_at hl 1 rfl) ?_
        refine lv_iload hx hb dX6_goDay_84 (lv_at hl 3 rfl) ?_
        refine lv_aload_n hx hb dX6_goDay_86 rfl (lv_at hl 0 rfl) ?_
        refine va_get (D := D) (ci := 6) (v := .ref a_t_did) (C := RX6) (T := TX6) (N := 6) hx hb hts in_X6_goDay_X6 hown hK hP 2 rfl rfl 5 (by decide) (hts _ m_X6_goDay_f21) (fun _ h9 => h9) rfl dX6_goDay_87 ?_
        refine lv_iconst (v := 2) hx hb dX6_goDay_90 (by decide) ?_
        refine lv_iload hx hb dX6_goDay_91 (lv_at hl 3 rfl) ?_
        refine lv_imul hx hb dX6_goDay_93 ?_
        obtain ⟨hi, hp⟩ := hp
        refine va_iald (D := D) hx hb hK hP 3 0 rfl rfl hi dX6_goDay_94 ?_
        refine lv_aload_n hx hb dX6_goDay_95 rfl (lv_at hl 0 rfl) ?_
        refine va_get (D := D) (ci := 6) (v := .ref a_t_did) (C := RX6) (T := TX6) (N := 6) hx hb hts in_X6_goDay_X6 hown hK hP 2 rfl rfl 5 (by decide) (hts _ m_X6_goDay_f21) (fun _ h9 => h9) rfl dX6_goDay_96 ?_
        refine lv_iconst (v := 2) hx hb dX6_goDay_99 (by decide) ?_
        refine lv_iload hx hb dX6_goDay_100 (lv_at hl 3 rfl) ?_
        refine lv_imul hx hb dX6_goDay_102 ?_
        refine lv_iconst (v := 1) hx hb dX6_goDay_103 (by decide) ?_
        refine lv_iadd hx hb dX6_goDay_104 ?_
        obtain ⟨hi, hp⟩ := hp
        refine va_iald (D := D) hx hb hK hP 3 0 rfl rfl hi dX6_goDay_105 ?_
        refine hcV_i (As := [.ref a_p1, .int x4, .int (t_did ((2 : Int32) * x4).toNatClampNeg), .int (t_did (((2 : Int32) * x4) + (1 : Int32)).toNatClampNeg)]) (rest := []) (fun u => (wX6_goDay cI cC cB cS a_p1 a_p1_kinds a_p1_hours a_p1_lands a_p1_owners a_p1_treeWalls a_p1_treePlaces a_t a_t_land a_t_places a_t_shares a_t_did p1_families p1_walls p1_trees p1_owners t_days t_sickBits t_did t_shares p1_kinds t_land t_places)) X hP hD hS hl.1 [2, 0, 1, 6] [3, 4, 5, 7] [5, 6, 4, 0, 1, 2, 7, 3] 4 2 (@c_X6_losingSide l D cI cC cB cS a_t a_t_land a_t_places a_t_shares a_t_did a_p1 a_p1_kinds a_p1_hours a_p1_lands a_p1_owners a_p1_treeWalls a_p1_treePlaces t_days t_sickBits p1_families p1_walls p1_trees p1_owners t_land x4 (t_did ((2 : Int32) * x4).toNatClampNeg) (t_did (((2 : Int32) * x4) + (1 : Int32)).toNatClampNeg) _ hp) ⟨rfl, rfl⟩ (fun _ => rfl) (by decide +kernel) gX6_goDay_X6_losingSide rfl rfl rfl rfl hNm_X6_losingSide ⟨Nat.le_of_ble_eq_true rfl, Nat.le_of_ble_eq_true rfl⟩ (ci := 6) rfl rfl rfl rfl (Nat.le_of_ble_eq_true rfl) dX6_goDay_106 ⟨Nat.le_of_ble_eq_true rfl, Nat.le_of_ble_eq_true rfl⟩ (fun r106 _ H locs hp hP hD hS => ?_)
        try dsimp only at hp
        have hP : va_P D vwCl (wX6_goDay cI cC cB cS a_p1 a_p1_kinds a_p1_hours a_p1_lands a_p1_owners a_p1_treeWalls a_p1_treePlaces a_t a_t_land a_t_places a_t_shares a_t_did p1_families p1_walls p1_trees p1_owners t_days t_sickBits t_did t_shares p1_kinds t_land t_places) H := hP
        have hD : va_D A (wX6_goDay cI cC cB cS a_p1 a_p1_kinds a_p1_hours a_p1_lands a_p1_owners a_p1_treeWalls a_p1_treePlaces a_t a_t_land a_t_places a_t_shares a_t_did p1_families p1_walls p1_trees p1_owners t_days t_sickBits t_did t_shares p1_kinds t_land t_places) := hD
        refine lv_istore (lv' := [(5, .int r106), (0, .ref a_t), (1, .ref a_p1), (3, .int x3), (4, .int x4)]) hx hb dX6_goDay_109 hl (by decide) rfl (fun ls hl => ?_)
        refine lv_iload hx hb dX6_goDay_111 (lv_at hl 0 rfl) ?_
        refine lv_bipush (v := -4) hx hb dX6_goDay_113 (by decide) ?_
        refine lv_icmp_eq (tgt := 179) hx hb dX6_goDay_115 (by decide) (fun hc => ?_) (fun hc => ?_)
        · have hp := hp.1 hc
          exact J179 x3 x4 t_days t_did t_land t_places _ _ hP hD hS hp _ (lv_sub hl [1, 2, 3, 4] rfl)
        · have hp := hp.2 hc
          refine lv_aload_n hx hb dX6_goDay_118 rfl (lv_at hl 1 rfl) ?_
          refine va_get (D := D) (ci := 6) (v := .ref a_t_land) (C := RX6) (T := TX6) (N := 6) hx hb hts in_X6_goDay_X6 hown hK hP 2 rfl rfl 2 (by decide) (hts _ m_X6_goDay_f9) (fun _ h9 => h9) rfl dX6_goDay_119 ?_
          refine lv_aload_n hx hb dX6_goDay_122 rfl (lv_at hl 2 rfl) ?_
          refine va_get (D := D) (ci := 1) (v := .ref a_p1_owners) (C := RX1) (T := TX1) (N := 9) hx hb hts in_X6_goDay_X1 hown hK hP 0 rfl rfl 6 (by decide) (hts _ m_X6_goDay_f60) (fun _ h9 => h9) rfl dX6_goDay_123 ?_
          refine lv_iload hx hb dX6_goDay_126 (lv_at hl 0 rfl) ?_
          obtain ⟨hi, hp⟩ := hp
          refine va_iald (D := D) hx hb hK hP 1 0 rfl rfl hi dX6_goDay_128 ?_
          refine lv_dup2_11 hx hb dX6_goDay_129 rfl rfl ?_
          obtain ⟨hi, hp⟩ := hp
          refine va_iald (D := D) hx hb hK hP 6 0 rfl rfl hi dX6_goDay_130 ?_
          refine lv_iconst (v := 1) hx hb dX6_goDay_131 (by decide) ?_
          refine lv_isub hx hb dX6_goDay_132 ?_
          obtain ⟨hi, hp⟩ := hp
          refine va_iast (D := D) hx hb hK hP hD hS 6 0 rfl rfl hi dX6_goDay_133 (fun H locs hP hD hS => ?_)
          have hP : va_P D vwCl (wX6_goDay cI cC cB cS a_p1 a_p1_kinds a_p1_hours a_p1_lands a_p1_owners a_p1_treeWalls a_p1_treePlaces a_t a_t_land a_t_places a_t_shares a_t_did p1_families p1_walls p1_trees p1_owners t_days t_sickBits t_did t_shares p1_kinds (upd t_land (p1_owners r106.toNatClampNeg).toNatClampNeg ((t_land (p1_owners r106.toNatClampNeg).toNatClampNeg) - (1 : Int32))) t_places) H := hP
          have hD : va_D A (wX6_goDay cI cC cB cS a_p1 a_p1_kinds a_p1_hours a_p1_lands a_p1_owners a_p1_treeWalls a_p1_treePlaces a_t a_t_land a_t_places a_t_shares a_t_did p1_families p1_walls p1_trees p1_owners t_days t_sickBits t_did t_shares p1_kinds (upd t_land (p1_owners r106.toNatClampNeg).toNatClampNeg ((t_land (p1_owners r106.toNatClampNeg).toNatClampNeg) - (1 : Int32))) t_places) := hD
          refine lv_aload_n hx hb dX6_goDay_134 rfl (lv_at hl 1 rfl) ?_
          refine va_get (D := D) (ci := 6) (v := .ref a_t_land) (C := RX6) (T := TX6) (N := 6) hx hb hts in_X6_goDay_X6 hown hK hP 2 rfl rfl 2 (by decide) (hts _ m_X6_goDay_f9) (fun _ h9 => h9) rfl dX6_goDay_135 ?_
          refine lv_aload_n hx hb dX6_goDay_138 rfl (lv_at hl 2 rfl) ?_
          refine va_get (D := D) (ci := 1) (v := .ref a_p1_owners) (C := RX1) (T := TX1) (N := 9) hx hb hts in_X6_goDay_X1 hown hK hP 0 rfl rfl 6 (by decide) (hts _ m_X6_goDay_f60) (fun _ h9 => h9) rfl dX6_goDay_139 ?_
          refine lv_iload hx hb dX6_goDay_142 (lv_at hl 0 rfl) ?_
          refine lv_iconst (v := 1) hx hb dX6_goDay_144 (by decide) ?_
          refine lv_ixor hx hb dX6_goDay_145 ?_
          obtain ⟨hi, hp⟩ := hp
          refine va_iald (D := D) hx hb hK hP 1 0 rfl rfl hi dX6_goDay_146 ?_
          refine lv_dup2_11 hx hb dX6_goDay_147 rfl rfl ?_
          obtain ⟨hi, hp⟩ := hp
          refine va_iald (D := D) hx hb hK hP 6 0 rfl rfl hi dX6_goDay_148 ?_
          refine lv_iconst (v := 1) hx hb dX6_goDay_149 (by decide) ?_
          refine lv_iadd hx hb dX6_goDay_150 ?_
          obtain ⟨hi, hp⟩ := hp
          refine va_iast (D := D) hx hb hK hP hD hS 6 0 rfl rfl hi dX6_goDay_151 (fun H locs hP hD hS => ?_)
          have hP : va_P D vwCl (wX6_goDay cI cC cB cS a_p1 a_p1_kinds a_p1_hours a_p1_lands a_p1_owners a_p1_treeWalls a_p1_treePlaces a_t a_t_land a_t_places a_t_shares a_t_did p1_families p1_walls p1_trees p1_owners t_days t_sickBits t_did t_shares p1_kinds (upd (upd t_land (p1_owners r106.toNatClampNeg).toNatClampNeg ((t_land (p1_owners r106.toNatClampNeg).toNatClampNeg) - (1 : Int32))) (p1_owners (r106 ^^^ (1 : Int32)).toNatClampNeg).toNatClampNeg (((upd t_land (p1_owners r106.toNatClampNeg).toNatClampNeg ((t_land (p1_owners r106.toNatClampNeg).toNatClampNeg) - (1 : Int32))) (p1_owners (r106 ^^^ (1 : Int32)).toNatClampNeg).toNatClampNeg) + (1 : Int32))) t_places) H := hP
          have hD : va_D A (wX6_goDay cI cC cB cS a_p1 a_p1_kinds a_p1_hours a_p1_lands a_p1_owners a_p1_treeWalls a_p1_treePlaces a_t a_t_land a_t_places a_t_shares a_t_did p1_families p1_walls p1_trees p1_owners t_days t_sickBits t_did t_shares p1_kinds (upd (upd t_land (p1_owners r106.toNatClampNeg).toNatClampNeg ((t_land (p1_owners r106.toNatClampNeg).toNatClampNeg) - (1 : Int32))) (p1_owners (r106 ^^^ (1 : Int32)).toNatClampNeg).toNatClampNeg (((upd t_land (p1_owners r106.toNatClampNeg).toNatClampNeg ((t_land (p1_owners r106.toNatClampNeg).toNatClampNeg) - (1 : Int32))) (p1_owners (r106 ^^^ (1 : Int32)).toNatClampNeg).toNatClampNeg) + (1 : Int32))) t_places) := hD
          refine lv_aload_n hx hb dX6_goDay_152 rfl (lv_at hl 1 rfl) ?_
          refine va_get (D := D) (ci := 6) (v := .ref a_t_places) (C := RX6) (T := TX6) (N := 6) hx hb hts in_X6_goDay_X6 hown hK hP 2 rfl rfl 3 (by decide) (hts _ m_X6_goDay_f15) (fun _ h9 => h9) rfl dX6_goDay_153 ?_
          refine lv_iload hx hb dX6_goDay_156 (lv_at hl 4 rfl) ?_
          refine lv_dup2_11 hx hb dX6_goDay_158 rfl rfl ?_
          obtain ⟨hi, hp⟩ := hp
          refine va_iald (D := D) hx hb hK hP 7 0 rfl rfl hi dX6_goDay_159 ?_
          refine lv_iload hx hb dX6_goDay_160 (lv_at hl 0 rfl) ?_
          refine lv_iconst (v := 2) hx hb dX6_goDay_162 (by decide) ?_
          refine lv_iload hx hb dX6_goDay_163 (lv_at hl 4 rfl) ?_
          refine lv_imul hx hb dX6_goDay_165 ?_
          refine lv_icmp_ne (tgt := 173) hx hb dX6_goDay_166 (by decide) (fun hc => ?_) (fun hc => ?_)
          · have hp := hp.1 hc
            refine lv_iconst (v := 1) hx hb dX6_goDay_173 (by decide) ?_
            exact J174 x3 x4 x4 (t_places x4.toNatClampNeg) (1 : Int32) t_days t_did (upd (upd t_land (p1_owners r106.toNatClampNeg).toNatClampNeg ((t_land (p1_owners r106.toNatClampNeg).toNatClampNeg) - (1 : Int32))) (p1_owners (r106 ^^^ (1 : Int32)).toNatClampNeg).toNatClampNeg (((upd t_land (p1_owners r106.toNatClampNeg).toNatClampNeg ((t_land (p1_owners r106.toNatClampNeg).toNatClampNeg) - (1 : Int32))) (p1_owners (r106 ^^^ (1 : Int32)).toNatClampNeg).toNatClampNeg) + (1 : Int32))) t_places _ _ hP hD hS hp _ (lv_sub hl [1, 2, 3, 4] rfl)
          · have hp := hp.2 hc
            refine lv_iconst (v := -1) hx hb dX6_goDay_169 (by decide) ?_
            refine lv_goto (tgt := 174) hx hb dX6_goDay_170 (by decide) ?_
            exact J174 x3 x4 x4 (t_places x4.toNatClampNeg) (-1 : Int32) t_days t_did (upd (upd t_land (p1_owners r106.toNatClampNeg).toNatClampNeg ((t_land (p1_owners r106.toNatClampNeg).toNatClampNeg) - (1 : Int32))) (p1_owners (r106 ^^^ (1 : Int32)).toNatClampNeg).toNatClampNeg (((upd t_land (p1_owners r106.toNatClampNeg).toNatClampNeg ((t_land (p1_owners r106.toNatClampNeg).toNatClampNeg) - (1 : Int32))) (p1_owners (r106 ^^^ (1 : Int32)).toNatClampNeg).toNatClampNeg) + (1 : Int32))) t_places _ _ hP hD hS hp _ (lv_sub hl [1, 2, 3, 4] rfl)
  have L2 : ∀ (n2 : Nat) (x2 : Int32) (x3 : Int32) (t_days : Int32) (t_did : Nat → Int32) (t_land : Nat → Int32) (t_places : Nat → Int32)  (H : Heap) (locs : List Loc), va_P D vwCl (wX6_goDay cI cC cB cS a_p1 a_p1_kinds a_p1_hours a_p1_lands a_p1_owners a_p1_treeWalls a_p1_treePlaces a_t a_t_land a_t_places a_t_shares a_t_did p1_families p1_walls p1_trees p1_owners t_days t_sickBits t_did t_shares p1_kinds t_land t_places) H → va_D A (wX6_goDay cI cC cB cS a_p1 a_p1_kinds a_p1_hours a_p1_lands a_p1_owners a_p1_treeWalls a_p1_treePlaces a_t a_t_land a_t_places a_t_shares a_t_did p1_families p1_walls p1_trees p1_owners t_days t_sickBits t_did t_shares p1_kinds t_land t_places) → va_S A H0 H locs → P_X6_goDay_L2 p1_walls p1_owners t_sickBits t_shares p1_kinds post n2 x2 x3 t_days t_did t_land t_places → ∀ ls : Array Slot, lv_has ls 6 [(0, .ref a_t), (1, .ref a_p1), (2, .int x2), (3, .int x3)] → W p l e rmX6_goDay s m args below meth c H locs 0 0 Q (F0 m 2 ls []) := by
    intro n2
    induction n2 with
    | zero => intro x2 x3 t_days t_did t_land t_places H locs hP hD hS hp; exact False.elim hp
    | succ n2 ih2 =>
      have J51 : ∀ (x2 : Int32) (x3 : Int32) (y1 : Int32) (y2 : Int32) (t_days : Int32) (t_did : Nat → Int32) (t_land : Nat → Int32) (t_places : Nat → Int32)  (H : Heap) (locs : List Loc), va_P D vwCl (wX6_goDay cI cC cB cS a_p1 a_p1_kinds a_p1_hours a_p1_lands a_p1_owners a_p1_treeWalls a_p1_treePlaces a_t a_t_land a_t_places a_t_shares a_t_did p1_families p1_walls p1_trees p1_owners t_days t_sickBits t_did t_shares p1_kinds t_land t_places) H → va_D A (wX6_goDay cI cC cB cS a_p1 a_p1_kinds a_p1_hours a_p1_lands a_p1_owners a_p1_treeWalls a_p1_treePlaces a_t a_t_land a_t_places a_t_shares a_t_did p1_families p1_walls p1_trees p1_owners t_days t_sickBits t_did t_shares p1_kinds t_land t_places) → va_S A H0 H locs → P_X6_goDay_b51 p1_walls p1_owners t_sickBits t_shares p1_kinds (P_X6_goDay_L2 p1_walls p1_owners t_sickBits t_shares p1_kinds post n2) post x2 x3 y1 y2 t_days t_did t_land t_places → ∀ ls : Array Slot, lv_has ls 6 [(0, .ref a_t), (1, .ref a_p1), (2, .int x2), (3, .int x3)] → W p l e rmX6_goDay s m args below meth c H locs 0 0 Q (F0 m 51 ls [.int y2, .int y1, .ref a_t_did]) := by
        intro x2 x3 y1 y2 t_days t_did t_land t_places H locs hP hD hS hp ls hl
        unfold P_X6_goDay_b51 at hp
        obtain ⟨hi, hp⟩ := hp
        refine va_iast (D := D) hx hb hK hP hD hS 3 0 rfl rfl hi dX6_goDay_51 (fun H locs hP hD hS => ?_)
        have hP : va_P D vwCl (wX6_goDay cI cC cB cS a_p1 a_p1_kinds a_p1_hours a_p1_lands a_p1_owners a_p1_treeWalls a_p1_treePlaces a_t a_t_land a_t_places a_t_shares a_t_did p1_families p1_walls p1_trees p1_owners t_days t_sickBits (upd t_did y1.toNatClampNeg y2) t_shares p1_kinds t_land t_places) H := hP
        have hD : va_D A (wX6_goDay cI cC cB cS a_p1 a_p1_kinds a_p1_hours a_p1_lands a_p1_owners a_p1_treeWalls a_p1_treePlaces a_t a_t_land a_t_places a_t_shares a_t_did p1_families p1_walls p1_trees p1_owners t_days t_sickBits (upd t_did y1.toNatClampNeg y2) t_shares p1_kinds t_land t_places) := hD
        refine lv_iinc (v := x3 + (1 : Int32)) (lv' := [(3, .int (x3 + (1 : Int32))), (0, .ref a_t), (1, .ref a_p1), (2, .int x2)]) hx hb dX6_goDay_52 hl (k := 3) rfl rfl (by decide) rfl (fun ls hl => ?_)
        refine lv_goto (tgt := 2) hx hb dX6_goDay_55 (by decide) ?_
        exact ih2 x2 (x3 + (1 : Int32)) t_days (upd t_did y1.toNatClampNeg y2) t_land t_places _ _ hP hD hS hp _ (lv_sub hl [1, 2, 3, 0] rfl)
      have J29 : ∀ (x2 : Int32) (x3 : Int32) (y0 : Int32) (t_days : Int32) (t_did : Nat → Int32) (t_land : Nat → Int32) (t_places : Nat → Int32)  (H : Heap) (locs : List Loc), va_P D vwCl (wX6_goDay cI cC cB cS a_p1 a_p1_kinds a_p1_hours a_p1_lands a_p1_owners a_p1_treeWalls a_p1_treePlaces a_t a_t_land a_t_places a_t_shares a_t_did p1_families p1_walls p1_trees p1_owners t_days t_sickBits t_did t_shares p1_kinds t_land t_places) H → va_D A (wX6_goDay cI cC cB cS a_p1 a_p1_kinds a_p1_hours a_p1_lands a_p1_owners a_p1_treeWalls a_p1_treePlaces a_t a_t_land a_t_places a_t_shares a_t_did p1_families p1_walls p1_trees p1_owners t_days t_sickBits t_did t_shares p1_kinds t_land t_places) → va_S A H0 H locs → P_X6_goDay_b29 p1_walls p1_owners t_sickBits t_shares p1_kinds (P_X6_goDay_L2 p1_walls p1_owners t_sickBits t_shares p1_kinds post n2) post x2 x3 y0 t_days t_did t_land t_places → ∀ ls : Array Slot, lv_has ls 6 [(0, .ref a_t), (1, .ref a_p1), (2, .int x2), (3, .int x3)] → W p l e rmX6_goDay s m args below meth c H locs 0 0 Q (F0 m 29 ls [.int y0]) := by
        intro x2 x3 y0 t_days t_did t_land t_places H locs hP hD hS hp ls hl
        unfold P_X6_goDay_b29 at hp
        refine lv_istore (lv' := [(4, .int y0), (0, .ref a_t), (1, .ref a_p1), (2, .int x2), (3, .int x3)]) hx hb dX6_goDay_29 hl (by decide) rfl (fun ls hl => ?_)
        refine lv_aload_n hx hb dX6_goDay_31 rfl (lv_at hl 1 rfl) ?_
        refine va_get (D := D) (ci := 6) (v := .ref a_t_did) (C := RX6) (T := TX6) (N := 6) hx hb hts in_X6_goDay_X6 hown hK hP 2 rfl rfl 5 (by decide) (hts _ m_X6_goDay_f21) (fun _ h9 => h9) rfl dX6_goDay_32 ?_
        refine lv_iload_n hx hb dX6_goDay_35 rfl (lv_at hl 4 rfl) ?_
        refine lv_iload hx hb dX6_goDay_36 (lv_at hl 0 rfl) ?_
        refine lv_if_eq (tgt := 45) hx hb dX6_goDay_38 (by decide) (fun hc => ?_) (fun hc => ?_)
        · have hp := hp.1 hc
          refine lv_aload_n hx hb dX6_goDay_45 rfl (lv_at hl 1 rfl) ?_
          refine lv_aload_n hx hb dX6_goDay_46 rfl (lv_at hl 2 rfl) ?_
          refine lv_iload_n hx hb dX6_goDay_47 rfl (lv_at hl 4 rfl) ?_
          refine hcV_i (As := [.ref a_p1, .int x3]) (rest := [.int x3, .ref a_t_did]) (fun u => (wX6_goDay cI cC cB cS a_p1 a_p1_kinds a_p1_hours a_p1_lands a_p1_owners a_p1_treeWalls a_p1_treePlaces a_t a_t_land a_t_places a_t_shares a_t_did p1_families p1_walls p1_trees p1_owners t_days t_sickBits t_did t_shares p1_kinds t_land t_places)) X hP hD hS hl.1 [2, 0, 1, 4, 5, 6] [3, 7] [3, 4, 2, 0, 5, 6, 7, 1] 2 2 (@c_X6_does l D cI cC cB cS a_t a_t_land a_t_places a_t_shares a_t_did a_p1 a_p1_kinds a_p1_hours a_p1_lands a_p1_owners a_p1_treeWalls a_p1_treePlaces t_days t_sickBits p1_families p1_walls p1_trees p1_owners t_shares p1_kinds t_land x3 _ hp) ⟨rfl, rfl⟩ (fun _ => rfl) (by decide +kernel) gX6_goDay_X6_does rfl rfl rfl rfl hNm_X6_does ⟨Nat.le_of_ble_eq_true rfl, Nat.le_of_ble_eq_true rfl⟩ (ci := 6) rfl rfl rfl rfl (Nat.le_of_ble_eq_true rfl) dX6_goDay_48 ⟨Nat.le_of_ble_eq_true rfl, Nat.le_of_ble_eq_true rfl⟩ (fun r48 _ H locs hp hP hD hS => ?_)
          try dsimp only at hp
          have hP : va_P D vwCl (wX6_goDay cI cC cB cS a_p1 a_p1_kinds a_p1_hours a_p1_lands a_p1_owners a_p1_treeWalls a_p1_treePlaces a_t a_t_land a_t_places a_t_shares a_t_did p1_families p1_walls p1_trees p1_owners t_days t_sickBits t_did t_shares p1_kinds t_land t_places) H := hP
          have hD : va_D A (wX6_goDay cI cC cB cS a_p1 a_p1_kinds a_p1_hours a_p1_lands a_p1_owners a_p1_treeWalls a_p1_treePlaces a_t a_t_land a_t_places a_t_shares a_t_did p1_families p1_walls p1_trees p1_owners t_days t_sickBits t_did t_shares p1_kinds t_land t_places) := hD
          exact J51 x2 x3 x3 r48 t_days t_did t_land t_places _ _ hP hD hS hp _ (lv_sub hl [1, 2, 3, 4] rfl)
        · have hp := hp.2 hc
          refine lv_iconst (v := 0) hx hb dX6_goDay_41 (by decide) ?_
          refine lv_goto (tgt := 51) hx hb dX6_goDay_42 (by decide) ?_
          exact J51 x2 x3 x3 (0 : Int32) t_days t_did t_land t_places _ _ hP hD hS hp _ (lv_sub hl [1, 2, 3, 4] rfl)
      intro x2 x3 t_days t_did t_land t_places H locs hP hD hS hp ls hl
      rw [P_X6_goDay_L2] at hp
      refine lv_iload_n hx hb dX6_goDay_2 rfl (lv_at hl 3 rfl) ?_
      refine lv_aload_n hx hb dX6_goDay_3 rfl (lv_at hl 1 rfl) ?_
      refine hcV_i (As := []) (rest := [.int x3]) (fun u => (wX6_goDay cI cC cB cS a_p1 a_p1_kinds a_p1_hours a_p1_lands a_p1_owners a_p1_treeWalls a_p1_treePlaces a_t a_t_land a_t_places a_t_shares a_t_did p1_families p1_walls p1_trees p1_owners t_days t_sickBits t_did t_shares p1_kinds t_land t_places)) X hP hD hS hl.1 [0] [1, 2, 3, 4, 5, 6, 7] [7, 0, 1, 2, 3, 4, 5, 6] 0 0 (@c_X1_sides l D cI cC cB cS a_p1 a_p1_kinds a_p1_hours a_p1_lands a_p1_owners a_p1_treeWalls a_p1_treePlaces p1_families p1_walls p1_trees _ hp) ⟨rfl, rfl⟩ (fun _ => rfl) (by decide +kernel) gX6_goDay_X1_sides rfl rfl rfl rfl hNm_X1_sides ⟨Nat.le_of_ble_eq_true rfl, Nat.le_of_ble_eq_true rfl⟩ (ci := 1) rfl rfl rfl rfl (Nat.le_of_ble_eq_true rfl) dX6_goDay_4 ⟨Nat.le_of_ble_eq_true rfl, Nat.le_of_ble_eq_true rfl⟩ (fun r4 _ H locs hp hP hD hS => ?_)
      try dsimp only at hp
      have hP : va_P D vwCl (wX6_goDay cI cC cB cS a_p1 a_p1_kinds a_p1_hours a_p1_lands a_p1_owners a_p1_treeWalls a_p1_treePlaces a_t a_t_land a_t_places a_t_shares a_t_did p1_families p1_walls p1_trees p1_owners t_days t_sickBits t_did t_shares p1_kinds t_land t_places) H := hP
      have hD : va_D A (wX6_goDay cI cC cB cS a_p1 a_p1_kinds a_p1_hours a_p1_lands a_p1_owners a_p1_treeWalls a_p1_treePlaces a_t a_t_land a_t_places a_t_shares a_t_did p1_families p1_walls p1_trees p1_owners t_days t_sickBits t_did t_shares p1_kinds t_land t_places) := hD
      refine lv_icmp_ge (tgt := 58) hx hb dX6_goDay_7 (by decide) (fun hc => ?_) (fun hc => ?_)
      · have hp := hp.1 hc
        refine lv_aload_n hx hb dX6_goDay_58 rfl (lv_at hl 0 rfl) ?_
        refine lv_dup hx hb dX6_goDay_59 rfl ?_
        refine va_get (D := D) (ci := 6) (v := .int t_days) (C := RX6) (T := TX6) (N := 6) hx hb hts in_X6_goDay_X6 hown hK hP 2 rfl rfl 0 (by decide) (hts _ m_X6_goDay_f24) (fun _ h9 => h9) rfl dX6_goDay_60 ?_
        refine lv_iconst (v := 1) hx hb dX6_goDay_63 (by decide) ?_
        refine lv_iadd hx hb dX6_goDay_64 ?_
        refine va_put (D := D) (ci := 6) (v := .int (t_days + (1 : Int32))) (ty := .int) (C := RX6) (T := TX6) (N := 6) hx hb hts in_X6_goDay_X6 tyX6 tyX6_ok nmX6 hown hK hP hD hS 2 rfl rfl 0 (by decide) (hts _ m_X6_goDay_f24) (fun _ h9 => h9) rfl (by decide +kernel) rfl rfl (Nat.le_of_ble_eq_true rfl) dX6_goDay_65 (fun H locs hP hD hS => ?_)
        have hP : va_P D vwCl (wX6_goDay cI cC cB cS a_p1 a_p1_kinds a_p1_hours a_p1_lands a_p1_owners a_p1_treeWalls a_p1_treePlaces a_t a_t_land a_t_places a_t_shares a_t_did p1_families p1_walls p1_trees p1_owners (t_days + (1 : Int32)) t_sickBits t_did t_shares p1_kinds t_land t_places) H := hP
        have hD : va_D A (wX6_goDay cI cC cB cS a_p1 a_p1_kinds a_p1_hours a_p1_lands a_p1_owners a_p1_treeWalls a_p1_treePlaces a_t a_t_land a_t_places a_t_shares a_t_did p1_families p1_walls p1_trees p1_owners (t_days + (1 : Int32)) t_sickBits t_did t_shares p1_kinds t_land t_places) := hD
        refine lv_iconst (v := 0) hx hb dX6_goDay_68 (by decide) ?_
        refine lv_istore_n (lv' := [(3, .int (0 : Int32)), (0, .ref a_t), (1, .ref a_p1), (2, .int x2)]) hx hb dX6_goDay_69 rfl hl (by decide) rfl (fun ls hl => ?_)
        refine lv_iconst (v := 0) hx hb dX6_goDay_70 (by decide) ?_
        refine lv_istore (lv' := [(4, .int (0 : Int32)), (3, .int (0 : Int32)), (0, .ref a_t), (1, .ref a_p1), (2, .int x2)]) hx hb dX6_goDay_71 hl (by decide) rfl (fun ls hl => ?_)
        obtain ⟨n73, hp⟩ := hp
        exact L73 n73 (0 : Int32) (0 : Int32) (t_days + (1 : Int32)) t_did t_land t_places _ _ hP hD hS hp _ (lv_sub hl [2, 3, 1, 0] rfl)
      · have hp := hp.2 hc
        refine lv_iload_n hx hb dX6_goDay_10 rfl (lv_at hl 2 rfl) ?_
        refine lv_aload_n hx hb dX6_goDay_11 rfl (lv_at hl 1 rfl) ?_
        refine va_get (D := D) (ci := 1) (v := .ref a_p1_owners) (C := RX1) (T := TX1) (N := 9) hx hb hts in_X6_goDay_X1 hown hK hP 0 rfl rfl 6 (by decide) (hts _ m_X6_goDay_f60) (fun _ h9 => h9) rfl dX6_goDay_12 ?_
        refine lv_iload_n hx hb dX6_goDay_15 rfl (lv_at hl 3 rfl) ?_
        obtain ⟨hi, hp⟩ := hp
        refine va_iald (D := D) hx hb hK hP 1 0 rfl rfl hi dX6_goDay_16 ?_
        refine lv_ishr hx hb dX6_goDay_17 ?_
        refine lv_iconst (v := 1) hx hb dX6_goDay_18 (by decide) ?_
        refine lv_iand hx hb dX6_goDay_19 ?_
        refine lv_iconst (v := 1) hx hb dX6_goDay_20 (by decide) ?_
        refine lv_icmp_ne (tgt := 28) hx hb dX6_goDay_21 (by decide) (fun hc => ?_) (fun hc => ?_)
        · have hp := hp.1 hc
          refine lv_iconst (v := 0) hx hb dX6_goDay_28 (by decide) ?_
          exact J29 x2 x3 (0 : Int32) t_days t_did t_land t_places _ _ hP hD hS hp _ (lv_sub hl [0, 1, 2, 3] rfl)
        · have hp := hp.2 hc
          refine lv_iconst (v := 1) hx hb dX6_goDay_24 (by decide) ?_
          refine lv_goto (tgt := 29) hx hb dX6_goDay_25 (by decide) ?_
          exact J29 x2 x3 (1 : Int32) t_days t_did t_land t_places _ _ hP hD hS hp _ (lv_sub hl [0, 1, 2, 3] rfl)
  unfold P_X6_goDay at hp
  refine lv_iconst (v := 0) hx hb dX6_goDay_0 (by decide) ?_
  refine lv_istore_n (lv' := [(3, .int (0 : Int32)), (0, .ref a_t), (1, .ref a_p1), (2, .int x2)]) hx hb dX6_goDay_1 rfl hl (by decide) rfl (fun ls hl => ?_)
  obtain ⟨n2, hp⟩ := hp
  exact L2 n2 x2 (0 : Int32) t_days t_did t_land t_places _ _ hP hD hS hp _ (lv_sub hl [1, 2, 3, 0] rfl)
theorem c_X6_goDay (l : Launch) (D : va_G) (cI cC cB cS : ClassId) (a_p1 a_p1_kinds a_p1_hours a_p1_lands a_p1_owners a_p1_treeWalls a_p1_treePlaces a_t a_t_land a_t_places a_t_shares a_t_did : Nat) (p1_families : Int32) (p1_walls : Int32) (p1_trees : Int32) (p1_owners : Nat → Int32) (t_days : Int32) (t_sickBits : Int32) (t_did : Nat → Int32) (t_shares : Nat → Int32) (p1_kinds : Nat → Int32) (t_land : Nat → Int32) (t_places : Nat → Int32) (x2 : Int32) {post : Int32 → Int32 → (Nat → Int32) → (Nat → Int32) → (Nat → Int32) → Prop} (hp : P_X6_goDay x2 p1_walls p1_owners t_days t_sickBits t_did t_shares p1_kinds t_land t_places post) : CtrI l yX6_goDay wsX6_goDay rmX6_goDay D (tyL cI cC cB cS) [.ref a_t, .ref a_p1, .int x2] (wX6_goDay cI cC cB cS a_p1 a_p1_kinds a_p1_hours a_p1_lands a_p1_owners a_p1_treeWalls a_p1_treePlaces a_t a_t_land a_t_places a_t_shares a_t_did p1_families p1_walls p1_trees p1_owners t_days t_sickBits t_did t_shares p1_kinds t_land t_places) (fun r (u : Int32 × (Nat → Int32) × (Nat → Int32) × (Nat → Int32)) => post r u.1 u.2.1 u.2.2.1 u.2.2.2) (fun u => (wX6_goDay cI cC cB cS a_p1 a_p1_kinds a_p1_hours a_p1_lands a_p1_owners a_p1_treeWalls a_p1_treePlaces a_t a_t_land a_t_places a_t_shares a_t_did p1_families p1_walls p1_trees p1_owners u.1 t_sickBits u.2.1 t_shares p1_kinds u.2.2.1 u.2.2.2)) 0 0 :=
  ctrI_of (cc := cX6_goDay) (maxL := 6) (by decide) rfl (Nat.le_of_ble_eq_true rfl) (fun X hret _ _ _ hP hD hS hl => k_X6_goDay l D cI cC cB cS a_p1 a_p1_kinds a_p1_hours a_p1_lands a_p1_owners a_p1_treeWalls a_p1_treePlaces a_t a_t_land a_t_places a_t_shares a_t_did p1_families p1_walls p1_trees p1_owners t_days t_sickBits t_did t_shares p1_kinds t_land t_places x2 hp X hret hP hD hS hl)
