/-! the pile's cells: its row of references, and the stands -/
theorem vp8 {i : Int32} (h : vp_in i 8) : i = 0 ∨ i = 1 ∨ i = 2 ∨ i = 3 ∨ i = 4 ∨ i = 5 ∨ i = 6 ∨ i = 7 := by
  obtain ⟨j, hj, rfl⟩ := vp_in_of h (by omega)
  match j, hj with
  | 0, _ => decide
  | 1, _ => decide
  | 2, _ => decide
  | 3, _ => decide
  | 4, _ => decide
  | 5, _ => decide
  | 6, _ => decide
  | 7, _ => decide
theorem vp2 {i : Int32} (h : vp_in i 2) : i = 0 ∨ i = 1 := by
  obtain ⟨j, hj, rfl⟩ := vp_in_of h (by omega)
  match j, hj with
  | 0, _ => decide
  | 1, _ => decide
theorem refs_congr {cA : ClassId} {n : Nat} {f g : Nat → Option Nat} (h : ∀ k, k < n → f k = g k) : vp_cell cA (n, .inr (.inr (.inr (.inr f)))) = vp_cell cA (n, .inr (.inr (.inr (.inr g)))) := by
  simp only [vp_cell, arrV]
  congr 1
  congr 1
  funext j
  rw [h j.val j.isLt]
/-- another row of references that says the same -/
theorem va_P_refs {D : va_G} {cl : List vw_C} {ws : va_W} {H : Heap} (hP : va_P D cl ws H) (p : Nat) {a : Nat} {cA : ClassId} {n : Nat} {f : Nat → Option Nat} (g : Nat → Option Nat) (he : ws[p]? = some (a, .inl (cA, n, .inr (.inr (.inr (.inr f)))))) (hf : ∀ k, k < n → f k = g k) : va_P D cl (ws.set p (a, .inl (cA, n, .inr (.inr (.inr (.inr g)))))) H := by
  have hl := (List.getElem?_eq_some_iff.mp he).1
  intro k q hk
  by_cases hkp : k = p
  · subst hkp
    rw [List.getElem?_set_self hl] at hk
    cases hk
    show H[a]? = _
    rw [← refs_congr hf]
    exact hP _ _ he
  · rw [List.getElem?_set_ne (Ne.symm hkp)] at hk
    exact hP k q hk
abbrev pileG8 (cI : ClassId) (pad : Nat → Nat → Nat) (pst : Nat → (Int32 × Int32 × (Nat → Int32) × (Nat → Int32) × (Nat → Int32))) : va_W := [(pad 0 0, .inr (6, [.int (pst 0).1, .int (pst 0).2.1, .ref (pad 0 1), .ref (pad 0 2), .ref (pad 0 3), .ref (pad 0 4)])), (pad 0 1, .inl (cI, 6, .inl (pst 0).2.2.1)), (pad 0 2, .inl (cI, 9, .inl (pst 0).2.2.2.1)), (pad 0 3, .inl (cI, 18, .inl (pst 0).2.2.2.2)), (pad 1 0, .inr (6, [.int (pst 1).1, .int (pst 1).2.1, .ref (pad 1 1), .ref (pad 1 2), .ref (pad 1 3), .ref (pad 1 4)])), (pad 1 1, .inl (cI, 6, .inl (pst 1).2.2.1)), (pad 1 2, .inl (cI, 9, .inl (pst 1).2.2.2.1)), (pad 1 3, .inl (cI, 18, .inl (pst 1).2.2.2.2)), (pad 2 0, .inr (6, [.int (pst 2).1, .int (pst 2).2.1, .ref (pad 2 1), .ref (pad 2 2), .ref (pad 2 3), .ref (pad 2 4)])), (pad 2 1, .inl (cI, 6, .inl (pst 2).2.2.1)), (pad 2 2, .inl (cI, 9, .inl (pst 2).2.2.2.1)), (pad 2 3, .inl (cI, 18, .inl (pst 2).2.2.2.2)), (pad 3 0, .inr (6, [.int (pst 3).1, .int (pst 3).2.1, .ref (pad 3 1), .ref (pad 3 2), .ref (pad 3 3), .ref (pad 3 4)])), (pad 3 1, .inl (cI, 6, .inl (pst 3).2.2.1)), (pad 3 2, .inl (cI, 9, .inl (pst 3).2.2.2.1)), (pad 3 3, .inl (cI, 18, .inl (pst 3).2.2.2.2)), (pad 4 0, .inr (6, [.int (pst 4).1, .int (pst 4).2.1, .ref (pad 4 1), .ref (pad 4 2), .ref (pad 4 3), .ref (pad 4 4)])), (pad 4 1, .inl (cI, 6, .inl (pst 4).2.2.1)), (pad 4 2, .inl (cI, 9, .inl (pst 4).2.2.2.1)), (pad 4 3, .inl (cI, 18, .inl (pst 4).2.2.2.2)), (pad 5 0, .inr (6, [.int (pst 5).1, .int (pst 5).2.1, .ref (pad 5 1), .ref (pad 5 2), .ref (pad 5 3), .ref (pad 5 4)])), (pad 5 1, .inl (cI, 6, .inl (pst 5).2.2.1)), (pad 5 2, .inl (cI, 9, .inl (pst 5).2.2.2.1)), (pad 5 3, .inl (cI, 18, .inl (pst 5).2.2.2.2)), (pad 6 0, .inr (6, [.int (pst 6).1, .int (pst 6).2.1, .ref (pad 6 1), .ref (pad 6 2), .ref (pad 6 3), .ref (pad 6 4)])), (pad 6 1, .inl (cI, 6, .inl (pst 6).2.2.1)), (pad 6 2, .inl (cI, 9, .inl (pst 6).2.2.2.1)), (pad 6 3, .inl (cI, 18, .inl (pst 6).2.2.2.2)), (pad 7 0, .inr (6, [.int (pst 7).1, .int (pst 7).2.1, .ref (pad 7 1), .ref (pad 7 2), .ref (pad 7 3), .ref (pad 7 4)])), (pad 7 1, .inl (cI, 6, .inl (pst 7).2.2.1)), (pad 7 2, .inl (cI, 9, .inl (pst 7).2.2.2.1)), (pad 7 3, .inl (cI, 18, .inl (pst 7).2.2.2.2))]
abbrev pileW8 (cI cS : ClassId) (sa : Nat) (pad : Nat → Nat → Nat) (pst : Nat → (Int32 × Int32 × (Nat → Int32) × (Nat → Int32) × (Nat → Int32))) : va_W := (sa, .inl (cS, 8, .inr (.inr (.inr (.inr (fun k => some (pad k 0))))))) :: pileG8 cI pad pst
abbrev pileG2 (cI : ClassId) (pad : Nat → Nat → Nat) (pst : Nat → (Int32 × Int32 × (Nat → Int32) × (Nat → Int32) × (Nat → Int32))) : va_W := [(pad 0 0, .inr (6, [.int (pst 0).1, .int (pst 0).2.1, .ref (pad 0 1), .ref (pad 0 2), .ref (pad 0 3), .ref (pad 0 4)])), (pad 0 1, .inl (cI, 6, .inl (pst 0).2.2.1)), (pad 0 2, .inl (cI, 9, .inl (pst 0).2.2.2.1)), (pad 0 3, .inl (cI, 18, .inl (pst 0).2.2.2.2)), (pad 1 0, .inr (6, [.int (pst 1).1, .int (pst 1).2.1, .ref (pad 1 1), .ref (pad 1 2), .ref (pad 1 3), .ref (pad 1 4)])), (pad 1 1, .inl (cI, 6, .inl (pst 1).2.2.1)), (pad 1 2, .inl (cI, 9, .inl (pst 1).2.2.2.1)), (pad 1 3, .inl (cI, 18, .inl (pst 1).2.2.2.2))]
abbrev pileW2 (cI cS : ClassId) (sa : Nat) (pad : Nat → Nat → Nat) (pst : Nat → (Int32 × Int32 × (Nat → Int32) × (Nat → Int32) × (Nat → Int32))) : va_W := (sa, .inl (cS, 2, .inr (.inr (.inr (.inr (fun k => some (pad k 0))))))) :: pileG2 cI pad pst
abbrev rmX3_dropOldest8 : Room := { frames := 0, cells := 0, slots := 0, locals := 0 }
abbrev wX3_dropOldest8 (cI cC cB cS : ClassId) (a_t a_t_stands : Nat) (t_size : Int32) (pad_t : Nat → Nat → Nat) (pst_t : Nat → (Int32 × Int32 × (Nat → Int32) × (Nat → Int32) × (Nat → Int32))) : va_W := (a_t, .inr (3, [.int t_size, .ref a_t_stands])) :: pileW8 cI cS a_t_stands pad_t pst_t
theorem hNm_X3_dropOldest8 : hNm yX3_dropOldest 0 := by decide +kernel
theorem m_X3_dropOldest8_f9 : Cond.fieldLink RX3 9 "LeaningWalls$Pile" "stands" "[LLeaningWalls$Stand;" ∈ wsX3_dropOldest := by decide +kernel
theorem m_X3_dropOldest8_f16 : Cond.fieldLink RX3 16 "LeaningWalls$Pile" "size" "I" ∈ wsX3_dropOldest := by decide +kernel
theorem in_X3_dropOldest8_X3 : ∀ w ∈ wsX30, w ∈ wsX3_dropOldest := by decide +kernel
/-- the first place comes behind the last -/
def rot8 {α : Type} (f : Nat → α) : Nat → α := fun k => if k = 7 then f 0 else f (k + 1)
def P_X3_dropOldest8 (t_size : Int32) (pst_t : Nat → (Int32 × Int32 × (Nat → Int32) × (Nat → Int32) × (Nat → Int32))) (post : Int32 → (Nat → (Int32 × Int32 × (Nat → Int32) × (Nat → Int32) × (Nat → Int32))) → Prop) : Prop := post 7 (rot8 pst_t)
set_option maxHeartbeats 4000000 in
set_option maxRecDepth 100000 in
theorem k_X3_dropOldest8 (l : Launch) (D : va_G) (cI cC cB cS : ClassId) (a_t a_t_stands : Nat) (t_size : Int32) (pad_t : Nat → Nat → Nat) (pst_t : Nat → (Int32 × Int32 × (Nat → Int32) × (Nat → Int32) × (Nat → Int32))) {post : Int32 → (Nat → (Int32 × Int32 × (Nat → Int32) × (Nat → Int32) × (Nat → Int32))) → Prop} (hp : P_X3_dropOldest8 t_size pst_t post) {p : Program} {e : Env} {s : State} {m : MethodId} {args : Array Value} {below : List Frame} {meth : Method} {c : Code} {Q : State → Prop} {A : Nat → Prop} {H0 : Heap} (X : WCtx p s m args c cX3_dropOldest 3 wsX3_dropOldest RX3 H0 A D (tyL cI cC cB cS)) (hret : ∀ {pc : Nat} {ls : Array Slot} {H : Heap} {locs : List Loc} (u : Int32 × (Nat → (Int32 × Int32 × (Nat → Int32) × (Nat → Int32) × (Nat → Int32))) × (Nat → Nat → Nat)), decode cX3_dropOldest pc = .ok (.return_, 1) → post u.1 u.2.1 → va_P D vwCl (wX3_dropOldest8 cI cC cB cS a_t a_t_stands u.1 u.2.2 u.2.1) H → va_D A (wX3_dropOldest8 cI cC cB cS a_t a_t_stands u.1 u.2.2 u.2.1) → va_S A H0 H locs → W p l e rmX3_dropOldest8 s m args below meth c H locs 0 0 Q (F0 m pc ls [])) {H : Heap} {locs : List Loc} {ls : Array Slot} (hP : va_P D vwCl (wX3_dropOldest8 cI cC cB cS a_t a_t_stands t_size pad_t pst_t) H) (hD : va_D A (wX3_dropOldest8 cI cC cB cS a_t a_t_stands t_size pad_t pst_t)) (hS : va_S A H0 H locs) (hl : lv_has ls 3 [(0, .ref a_t)]) : W p l e rmX3_dropOldest8 s m args below meth c H locs 0 0 Q (F0 m 0 ls []) := by
  obtain ⟨⟨hx, hb, hml, hown, hts⟩, hA, hK, hN⟩ := id X
  unfold P_X3_dropOldest8 at hp
  refine lv_aload_n hx hb dX3_dropOldest_0 rfl (lv_at hl 0 rfl) ?_
  refine va_get (D := D) (ci := 3) (v := .ref a_t_stands) (C := RX3) (T := TX3) (N := 2) hx hb hts in_X3_dropOldest8_X3 hown hK hP 0 rfl rfl 1 (by decide) (hts _ m_X3_dropOldest8_f9) (fun _ h9 => h9) rfl dX3_dropOldest_1 ?_
  refine lv_iconst (v := 0) hx hb dX3_dropOldest_4 (by decide) ?_
  refine va_aldq (D := D) hx hb hK hP 1 3 rfl rfl (by unfold vp_in; decide) dX3_dropOldest_5 ?_
  refine W.eq (g2 := F0 m 6 ls [.ref (pad_t 0 0)]) rfl ?_
  refine lv_astore_n (lv' := [(1, .ref (pad_t 0 0)), (0, .ref a_t)]) hx hb dX3_dropOldest_6 rfl hl (by decide) rfl (fun ls hl => ?_)
  refine lv_iconst (v := 1) hx hb dX3_dropOldest_7 (by decide) ?_
  refine lv_istore_n (lv' := [(2, .int 1), (1, .ref (pad_t 0 0)), (0, .ref a_t)]) hx hb dX3_dropOldest_8 rfl hl (by decide) rfl (fun ls hl => ?_)
  refine lv_iload_n hx hb dX3_dropOldest_9 rfl (lv_at hl 0 rfl) ?_
  refine lv_aload_n hx hb dX3_dropOldest_10 rfl (lv_at hl 2 rfl) ?_
  refine va_get (D := D) (ci := 3) (v := .ref a_t_stands) (C := RX3) (T := TX3) (N := 2) hx hb hts in_X3_dropOldest8_X3 hown hK hP 0 rfl rfl 1 (by decide) (hts _ m_X3_dropOldest8_f9) (fun _ h9 => h9) rfl dX3_dropOldest_11 ?_
  refine va_alen (D := D) (v := 8) hx hb hK hP 1 3 rfl rfl rfl dX3_dropOldest_14 ?_
  refine lv_icmp_ge (tgt := 38) hx hb dX3_dropOldest_15 (by decide) (fun hc => absurd hc (by decide)) (fun _ => ?_)
  refine lv_aload_n hx hb dX3_dropOldest_18 rfl (lv_at hl 2 rfl) ?_
  refine va_get (D := D) (ci := 3) (v := .ref a_t_stands) (C := RX3) (T := TX3) (N := 2) hx hb hts in_X3_dropOldest8_X3 hown hK hP 0 rfl rfl 1 (by decide) (hts _ m_X3_dropOldest8_f9) (fun _ h9 => h9) rfl dX3_dropOldest_19 ?_
  refine lv_iload_n hx hb dX3_dropOldest_22 rfl (lv_at hl 0 rfl) ?_
  refine lv_iconst (v := 1) hx hb dX3_dropOldest_23 (by decide) ?_
  refine lv_isub hx hb dX3_dropOldest_24 ?_
  refine W.eq (g2 := F0 m 25 ls [.int 0, .ref a_t_stands]) rfl ?_
  refine lv_aload_n hx hb dX3_dropOldest_25 rfl (lv_at hl 2 rfl) ?_
  refine va_get (D := D) (ci := 3) (v := .ref a_t_stands) (C := RX3) (T := TX3) (N := 2) hx hb hts in_X3_dropOldest8_X3 hown hK hP 0 rfl rfl 1 (by decide) (hts _ m_X3_dropOldest8_f9) (fun _ h9 => h9) rfl dX3_dropOldest_26 ?_
  refine lv_iload_n hx hb dX3_dropOldest_29 rfl (lv_at hl 0 rfl) ?_
  refine va_aldq (D := D) hx hb hK hP 1 3 rfl rfl (by unfold vp_in; decide) dX3_dropOldest_30 ?_
  refine W.eq (g2 := F0 m 31 ls [.ref (pad_t 1 0), .int 0, .ref a_t_stands]) rfl ?_
  refine va_astq (D := D) (ci := 6) (r := (RX6, TX6, 6)) hx hb hK hP hD hS 1 3 6 rfl rfl rfl rfl (by unfold vp_in; decide) dX3_dropOldest_31 (fun H locs hP hD hS => ?_)
  have hP : va_P D vwCl ((a_t, .inr (3, [.int t_size, .ref a_t_stands])) :: (a_t_stands, .inl (cS, 8, .inr (.inr (.inr (.inr (va_up (fun k => some (pad_t k 0)) 0 (some (pad_t 1 0)))))))) :: pileG8 cI pad_t pst_t) H := hP
  have hD : va_D A ((a_t, .inr (3, [.int t_size, .ref a_t_stands])) :: (a_t_stands, .inl (cS, 8, .inr (.inr (.inr (.inr (va_up (fun k => some (pad_t k 0)) 0 (some (pad_t 1 0)))))))) :: pileG8 cI pad_t pst_t) := hD
  refine lv_iinc (v := 2) (lv' := [(2, .int 2), (1, .ref (pad_t 0 0)), (0, .ref a_t)]) hx hb dX3_dropOldest_32 hl (k := 0) rfl (by decide) (by decide) rfl (fun ls hl => ?_)
  refine lv_goto (tgt := 9) hx hb dX3_dropOldest_35 (by decide) ?_
  refine lv_iload_n hx hb dX3_dropOldest_9 rfl (lv_at hl 0 rfl) ?_
  refine lv_aload_n hx hb dX3_dropOldest_10 rfl (lv_at hl 2 rfl) ?_
  refine va_get (D := D) (ci := 3) (v := .ref a_t_stands) (C := RX3) (T := TX3) (N := 2) hx hb hts in_X3_dropOldest8_X3 hown hK hP 0 rfl rfl 1 (by decide) (hts _ m_X3_dropOldest8_f9) (fun _ h9 => h9) rfl dX3_dropOldest_11 ?_
  refine va_alen (D := D) (v := 8) hx hb hK hP 1 3 rfl rfl rfl dX3_dropOldest_14 ?_
  refine lv_icmp_ge (tgt := 38) hx hb dX3_dropOldest_15 (by decide) (fun hc => absurd hc (by decide)) (fun _ => ?_)
  refine lv_aload_n hx hb dX3_dropOldest_18 rfl (lv_at hl 2 rfl) ?_
  refine va_get (D := D) (ci := 3) (v := .ref a_t_stands) (C := RX3) (T := TX3) (N := 2) hx hb hts in_X3_dropOldest8_X3 hown hK hP 0 rfl rfl 1 (by decide) (hts _ m_X3_dropOldest8_f9) (fun _ h9 => h9) rfl dX3_dropOldest_19 ?_
  refine lv_iload_n hx hb dX3_dropOldest_22 rfl (lv_at hl 0 rfl) ?_
  refine lv_iconst (v := 1) hx hb dX3_dropOldest_23 (by decide) ?_
  refine lv_isub hx hb dX3_dropOldest_24 ?_
  refine W.eq (g2 := F0 m 25 ls [.int 1, .ref a_t_stands]) rfl ?_
  refine lv_aload_n hx hb dX3_dropOldest_25 rfl (lv_at hl 2 rfl) ?_
  refine va_get (D := D) (ci := 3) (v := .ref a_t_stands) (C := RX3) (T := TX3) (N := 2) hx hb hts in_X3_dropOldest8_X3 hown hK hP 0 rfl rfl 1 (by decide) (hts _ m_X3_dropOldest8_f9) (fun _ h9 => h9) rfl dX3_dropOldest_26 ?_
  refine lv_iload_n hx hb dX3_dropOldest_29 rfl (lv_at hl 0 rfl) ?_
  refine va_aldq (D := D) hx hb hK hP 1 3 rfl rfl (by unfold vp_in; decide) dX3_dropOldest_30 ?_
  refine W.eq (g2 := F0 m 31 ls [.ref (pad_t 2 0), .int 1, .ref a_t_stands]) rfl ?_
  refine va_astq (D := D) (ci := 6) (r := (RX6, TX6, 6)) hx hb hK hP hD hS 1 3 10 rfl rfl rfl rfl (by unfold vp_in; decide) dX3_dropOldest_31 (fun H locs hP hD hS => ?_)
  have hP : va_P D vwCl ((a_t, .inr (3, [.int t_size, .ref a_t_stands])) :: (a_t_stands, .inl (cS, 8, .inr (.inr (.inr (.inr (va_up (va_up (fun k => some (pad_t k 0)) 0 (some (pad_t 1 0))) 1 (some (pad_t 2 0)))))))) :: pileG8 cI pad_t pst_t) H := hP
  have hD : va_D A ((a_t, .inr (3, [.int t_size, .ref a_t_stands])) :: (a_t_stands, .inl (cS, 8, .inr (.inr (.inr (.inr (va_up (va_up (fun k => some (pad_t k 0)) 0 (some (pad_t 1 0))) 1 (some (pad_t 2 0)))))))) :: pileG8 cI pad_t pst_t) := hD
  refine lv_iinc (v := 3) (lv' := [(2, .int 3), (1, .ref (pad_t 0 0)), (0, .ref a_t)]) hx hb dX3_dropOldest_32 hl (k := 0) rfl (by decide) (by decide) rfl (fun ls hl => ?_)
  refine lv_goto (tgt := 9) hx hb dX3_dropOldest_35 (by decide) ?_
  refine lv_iload_n hx hb dX3_dropOldest_9 rfl (lv_at hl 0 rfl) ?_
  refine lv_aload_n hx hb dX3_dropOldest_10 rfl (lv_at hl 2 rfl) ?_
  refine va_get (D := D) (ci := 3) (v := .ref a_t_stands) (C := RX3) (T := TX3) (N := 2) hx hb hts in_X3_dropOldest8_X3 hown hK hP 0 rfl rfl 1 (by decide) (hts _ m_X3_dropOldest8_f9) (fun _ h9 => h9) rfl dX3_dropOldest_11 ?_
  refine va_alen (D := D) (v := 8) hx hb hK hP 1 3 rfl rfl rfl dX3_dropOldest_14 ?_
  refine lv_icmp_ge (tgt := 38) hx hb dX3_dropOldest_15 (by decide) (fun hc => absurd hc (by decide)) (fun _ => ?_)
  refine lv_aload_n hx hb dX3_dropOldest_18 rfl (lv_at hl 2 rfl) ?_
  refine va_get (D := D) (ci := 3) (v := .ref a_t_stands) (C := RX3) (T := TX3) (N := 2) hx hb hts in_X3_dropOldest8_X3 hown hK hP 0 rfl rfl 1 (by decide) (hts _ m_X3_dropOldest8_f9) (fun _ h9 => h9) rfl dX3_dropOldest_19 ?_
  refine lv_iload_n hx hb dX3_dropOldest_22 rfl (lv_at hl 0 rfl) ?_
  refine lv_iconst (v := 1) hx hb dX3_dropOldest_23 (by decide) ?_
  refine lv_isub hx hb dX3_dropOldest_24 ?_
  refine W.eq (g2 := F0 m 25 ls [.int 2, .ref a_t_stands]) rfl ?_
  refine lv_aload_n hx hb dX3_dropOldest_25 rfl (lv_at hl 2 rfl) ?_
  refine va_get (D := D) (ci := 3) (v := .ref a_t_stands) (C := RX3) (T := TX3) (N := 2) hx hb hts in_X3_dropOldest8_X3 hown hK hP 0 rfl rfl 1 (by decide) (hts _ m_X3_dropOldest8_f9) (fun _ h9 => h9) rfl dX3_dropOldest_26 ?_
  refine lv_iload_n hx hb dX3_dropOldest_29 rfl (lv_at hl 0 rfl) ?_
  refine va_aldq (D := D) hx hb hK hP 1 3 rfl rfl (by unfold vp_in; decide) dX3_dropOldest_30 ?_
  refine W.eq (g2 := F0 m 31 ls [.ref (pad_t 3 0), .int 2, .ref a_t_stands]) rfl ?_
  refine va_astq (D := D) (ci := 6) (r := (RX6, TX6, 6)) hx hb hK hP hD hS 1 3 14 rfl rfl rfl rfl (by unfold vp_in; decide) dX3_dropOldest_31 (fun H locs hP hD hS => ?_)
  have hP : va_P D vwCl ((a_t, .inr (3, [.int t_size, .ref a_t_stands])) :: (a_t_stands, .inl (cS, 8, .inr (.inr (.inr (.inr (va_up (va_up (va_up (fun k => some (pad_t k 0)) 0 (some (pad_t 1 0))) 1 (some (pad_t 2 0))) 2 (some (pad_t 3 0)))))))) :: pileG8 cI pad_t pst_t) H := hP
  have hD : va_D A ((a_t, .inr (3, [.int t_size, .ref a_t_stands])) :: (a_t_stands, .inl (cS, 8, .inr (.inr (.inr (.inr (va_up (va_up (va_up (fun k => some (pad_t k 0)) 0 (some (pad_t 1 0))) 1 (some (pad_t 2 0))) 2 (some (pad_t 3 0)))))))) :: pileG8 cI pad_t pst_t) := hD
  refine lv_iinc (v := 4) (lv' := [(2, .int 4), (1, .ref (pad_t 0 0)), (0, .ref a_t)]) hx hb dX3_dropOldest_32 hl (k := 0) rfl (by decide) (by decide) rfl (fun ls hl => ?_)
  refine lv_goto (tgt := 9) hx hb dX3_dropOldest_35 (by decide) ?_
  refine lv_iload_n hx hb dX3_dropOldest_9 rfl (lv_at hl 0 rfl) ?_
  refine lv_aload_n hx hb dX3_dropOldest_10 rfl (lv_at hl 2 rfl) ?_
  refine va_get (D := D) (ci := 3) (v := .ref a_t_stands) (C := RX3) (T := TX3) (N := 2) hx hb hts in_X3_dropOldest8_X3 hown hK hP 0 rfl rfl 1 (by decide) (hts _ m_X3_dropOldest8_f9) (fun _ h9 => h9) rfl dX3_dropOldest_11 ?_
  refine va_alen (D := D) (v := 8) hx hb hK hP 1 3 rfl rfl rfl dX3_dropOldest_14 ?_
  refine lv_icmp_ge (tgt := 38) hx hb dX3_dropOldest_15 (by decide) (fun hc => absurd hc (by decide)) (fun _ => ?_)
  refine lv_aload_n hx hb dX3_dropOldest_18 rfl (lv_at hl 2 rfl) ?_
  refine va_get (D := D) (ci := 3) (v := .ref a_t_stands) (C := RX3) (T := TX3) (N := 2) hx hb hts in_X3_dropOldest8_X3 hown hK hP 0 rfl rfl 1 (by decide) (hts _ m_X3_dropOldest8_f9) (fun _ h9 => h9) rfl dX3_dropOldest_19 ?_
  refine lv_iload_n hx hb dX3_dropOldest_22 rfl (lv_at hl 0 rfl) ?_
  refine lv_iconst (v := 1) hx hb dX3_dropOldest_23 (by decide) ?_
  refine lv_isub hx hb dX3_dropOldest_24 ?_
  refine W.eq (g2 := F0 m 25 ls [.int 3, .ref a_t_stands]) rfl ?_
  refine lv_aload_n hx hb dX3_dropOldest_25 rfl (lv_at hl 2 rfl) ?_
  refine va_get (D := D) (ci := 3) (v := .ref a_t_stands) (C := RX3) (T := TX3) (N := 2) hx hb hts in_X3_dropOldest8_X3 hown hK hP 0 rfl rfl 1 (by decide) (hts _ m_X3_dropOldest8_f9) (fun _ h9 => h9) rfl dX3_dropOldest_26 ?_
  refine lv_iload_n hx hb dX3_dropOldest_29 rfl (lv_at hl 0 rfl) ?_
  refine va_aldq (D := D) hx hb hK hP 1 3 rfl rfl (by unfold vp_in; decide) dX3_dropOldest_30 ?_
  refine W.eq (g2 := F0 m 31 ls [.ref (pad_t 4 0), .int 3, .ref a_t_stands]) rfl ?_
  refine va_astq (D := D) (ci := 6) (r := (RX6, TX6, 6)) hx hb hK hP hD hS 1 3 18 rfl rfl rfl rfl (by unfold vp_in; decide) dX3_dropOldest_31 (fun H locs hP hD hS => ?_)
  have hP : va_P D vwCl ((a_t, .inr (3, [.int t_size, .ref a_t_stands])) :: (a_t_stands, .inl (cS, 8, .inr (.inr (.inr (.inr (va_up (va_up (va_up (va_up (fun k => some (pad_t k 0)) 0 (some (pad_t 1 0))) 1 (some (pad_t 2 0))) 2 (some (pad_t 3 0))) 3 (some (pad_t 4 0)))))))) :: pileG8 cI pad_t pst_t) H := hP
  have hD : va_D A ((a_t, .inr (3, [.int t_size, .ref a_t_stands])) :: (a_t_stands, .inl (cS, 8, .inr (.inr (.inr (.inr (va_up (va_up (va_up (va_up (fun k => some (pad_t k 0)) 0 (some (pad_t 1 0))) 1 (some (pad_t 2 0))) 2 (some (pad_t 3 0))) 3 (some (pad_t 4 0)))))))) :: pileG8 cI pad_t pst_t) := hD
  refine lv_iinc (v := 5) (lv' := [(2, .int 5), (1, .ref (pad_t 0 0)), (0, .ref a_t)]) hx hb dX3_dropOldest_32 hl (k := 0) rfl (by decide) (by decide) rfl (fun ls hl => ?_)
  refine lv_goto (tgt := 9) hx hb dX3_dropOldest_35 (by decide) ?_
  refine lv_iload_n hx hb dX3_dropOldest_9 rfl (lv_at hl 0 rfl) ?_
  refine lv_aload_n hx hb dX3_dropOldest_10 rfl (lv_at hl 2 rfl) ?_
  refine va_get (D := D) (ci := 3) (v := .ref a_t_stands) (C := RX3) (T := TX3) (N := 2) hx hb hts in_X3_dropOldest8_X3 hown hK hP 0 rfl rfl 1 (by decide) (hts _ m_X3_dropOldest8_f9) (fun _ h9 => h9) rfl dX3_dropOldest_11 ?_
  refine va_alen (D := D) (v := 8) hx hb hK hP 1 3 rfl rfl rfl dX3_dropOldest_14 ?_
  refine lv_icmp_ge (tgt := 38) hx hb dX3_dropOldest_15 (by decide) (fun hc => absurd hc (by decide)) (fun _ => ?_)
  refine lv_aload_n hx hb dX3_dropOldest_18 rfl (lv_at hl 2 rfl) ?_
  refine va_get (D := D) (ci := 3) (v := .ref a_t_stands) (C := RX3) (T := TX3) (N := 2) hx hb hts in_X3_dropOldest8_X3 hown hK hP 0 rfl rfl 1 (by decide) (hts _ m_X3_dropOldest8_f9) (fun _ h9 => h9) rfl dX3_dropOldest_19 ?_
  refine lv_iload_n hx hb dX3_dropOldest_22 rfl (lv_at hl 0 rfl) ?_
  refine lv_iconst (v := 1) hx hb dX3_dropOldest_23 (by decide) ?_
  refine lv_isub hx hb dX3_dropOldest_24 ?_
  refine W.eq (g2 := F0 m 25 ls [.int 4, .ref a_t_stands]) rfl ?_
  refine lv_aload_n hx hb dX3_dropOldest_25 rfl (lv_at hl 2 rfl) ?_
  refine va_get (D := D) (ci := 3) (v := .ref a_t_stands) (C := RX3) (T := TX3) (N := 2) hx hb hts in_X3_dropOldest8_X3 hown hK hP 0 rfl rfl 1 (by decide) (hts _ m_X3_dropOldest8_f9) (fun _ h9 => h9) rfl dX3_dropOldest_26 ?_
  refine lv_iload_n hx hb dX3_dropOldest_29 rfl (lv_at hl 0 rfl) ?_
  refine va_aldq (D := D) hx hb hK hP 1 3 rfl rfl (by unfold vp_in; decide) dX3_dropOldest_30 ?_
  refine W.eq (g2 := F0 m 31 ls [.ref (pad_t 5 0), .int 4, .ref a_t_stands]) rfl ?_
  refine va_astq (D := D) (ci := 6) (r := (RX6, TX6, 6)) hx hb hK hP hD hS 1 3 22 rfl rfl rfl rfl (by unfold vp_in; decide) dX3_dropOldest_31 (fun H locs hP hD hS => ?_)
  have hP : va_P D vwCl ((a_t, .inr (3, [.int t_size, .ref a_t_stands])) :: (a_t_stands, .inl (cS, 8, .inr (.inr (.inr (.inr (va_up (va_up (va_up (va_up (va_up (fun k => some (pad_t k 0)) 0 (some (pad_t 1 0))) 1 (some (pad_t 2 0))) 2 (some (pad_t 3 0))) 3 (some (pad_t 4 0))) 4 (some (pad_t 5 0)))))))) :: pileG8 cI pad_t pst_t) H := hP
  have hD : va_D A ((a_t, .inr (3, [.int t_size, .ref a_t_stands])) :: (a_t_stands, .inl (cS, 8, .inr (.inr (.inr (.inr (va_up (va_up (va_up (va_up (va_up (fun k => some (pad_t k 0)) 0 (some (pad_t 1 0))) 1 (some (pad_t 2 0))) 2 (some (pad_t 3 0))) 3 (some (pad_t 4 0))) 4 (some (pad_t 5 0)))))))) :: pileG8 cI pad_t pst_t) := hD
  refine lv_iinc (v := 6) (lv' := [(2, .int 6), (1, .ref (pad_t 0 0)), (0, .ref a_t)]) hx hb dX3_dropOldest_32 hl (k := 0) rfl (by decide) (by decide) rfl (fun ls hl => ?_)
  refine lv_goto (tgt := 9) hx hb dX3_dropOldest_35 (by decide) ?_
  refine lv_iload_n hx hb dX3_dropOldest_9 rfl (lv_at hl 0 rfl) ?_
  refine lv_aload_n hx hb dX3_dropOldest_10 rfl (lv_at hl 2 rfl) ?_
  refine va_get (D := D) (ci := 3) (v := .ref a_t_stands) (C := RX3) (T := TX3) (N := 2) hx hb hts in_X3_dropOldest8_X3 hown hK hP 0 rfl rfl 1 (by decide) (hts _ m_X3_dropOldest8_f9) (fun _ h9 => h9) rfl dX3_dropOldest_11 ?_
  refine va_alen (D := D) (v := 8) hx hb hK hP 1 3 rfl rfl rfl dX3_dropOldest_14 ?_
  refine lv_icmp_ge (tgt := 38) hx hb dX3_dropOldest_15 (by decide) (fun hc => absurd hc (by decide)) (fun _ => ?_)
  refine lv_aload_n hx hb dX3_dropOldest_18 rfl (lv_at hl 2 rfl) ?_
  refine va_get (D := D) (ci := 3) (v := .ref a_t_stands) (C := RX3) (T := TX3) (N := 2) hx hb hts in_X3_dropOldest8_X3 hown hK hP 0 rfl rfl 1 (by decide) (hts _ m_X3_dropOldest8_f9) (fun _ h9 => h9) rfl dX3_dropOldest_19 ?_
  refine lv_iload_n hx hb dX3_dropOldest_22 rfl (lv_at hl 0 rfl) ?_
  refine lv_iconst (v := 1) hx hb dX3_dropOldest_23 (by decide) ?_
  refine lv_isub hx hb dX3_dropOldest_24 ?_
  refine W.eq (g2 := F0 m 25 ls [.int 5, .ref a_t_stands]) rfl ?_
  refine lv_aload_n hx hb dX3_dropOldest_25 rfl (lv_at hl 2 rfl) ?_
  refine va_get (D := D) (ci := 3) (v := .ref a_t_stands) (C := RX3) (T := TX3) (N := 2) hx hb hts in_X3_dropOldest8_X3 hown hK hP 0 rfl rfl 1 (by decide) (hts _ m_X3_dropOldest8_f9) (fun _ h9 => h9) rfl dX3_dropOldest_26 ?_
  refine lv_iload_n hx hb dX3_dropOldest_29 rfl (lv_at hl 0 rfl) ?_
  refine va_aldq (D := D) hx hb hK hP 1 3 rfl rfl (by unfold vp_in; decide) dX3_dropOldest_30 ?_
  refine W.eq (g2 := F0 m 31 ls [.ref (pad_t 6 0), .int 5, .ref a_t_stands]) rfl ?_
  refine va_astq (D := D) (ci := 6) (r := (RX6, TX6, 6)) hx hb hK hP hD hS 1 3 26 rfl rfl rfl rfl (by unfold vp_in; decide) dX3_dropOldest_31 (fun H locs hP hD hS => ?_)
  have hP : va_P D vwCl ((a_t, .inr (3, [.int t_size, .ref a_t_stands])) :: (a_t_stands, .inl (cS, 8, .inr (.inr (.inr (.inr (va_up (va_up (va_up (va_up (va_up (va_up (fun k => some (pad_t k 0)) 0 (some (pad_t 1 0))) 1 (some (pad_t 2 0))) 2 (some (pad_t 3 0))) 3 (some (pad_t 4 0))) 4 (some (pad_t 5 0))) 5 (some (pad_t 6 0)))))))) :: pileG8 cI pad_t pst_t) H := hP
  have hD : va_D A ((a_t, .inr (3, [.int t_size, .ref a_t_stands])) :: (a_t_stands, .inl (cS, 8, .inr (.inr (.inr (.inr (va_up (va_up (va_up (va_up (va_up (va_up (fun k => some (pad_t k 0)) 0 (some (pad_t 1 0))) 1 (some (pad_t 2 0))) 2 (some (pad_t 3 0))) 3 (some (pad_t 4 0))) 4 (some (pad_t 5 0))) 5 (some (pad_t 6 0)))))))) :: pileG8 cI pad_t pst_t) := hD
  refine lv_iinc (v := 7) (lv' := [(2, .int 7), (1, .ref (pad_t 0 0)), (0, .ref a_t)]) hx hb dX3_dropOldest_32 hl (k := 0) rfl (by decide) (by decide) rfl (fun ls hl => ?_)
  refine lv_goto (tgt := 9) hx hb dX3_dropOldest_35 (by decide) ?_
  refine lv_iload_n hx hb dX3_dropOldest_9 rfl (lv_at hl 0 rfl) ?_
  refine lv_aload_n hx hb dX3_dropOldest_10 rfl (lv_at hl 2 rfl) ?_
  refine va_get (D := D) (ci := 3) (v := .ref a_t_stands) (C := RX3) (T := TX3) (N := 2) hx hb hts in_X3_dropOldest8_X3 hown hK hP 0 rfl rfl 1 (by decide) (hts _ m_X3_dropOldest8_f9) (fun _ h9 => h9) rfl dX3_dropOldest_11 ?_
  refine va_alen (D := D) (v := 8) hx hb hK hP 1 3 rfl rfl rfl dX3_dropOldest_14 ?_
  refine lv_icmp_ge (tgt := 38) hx hb dX3_dropOldest_15 (by decide) (fun hc => absurd hc (by decide)) (fun _ => ?_)
  refine lv_aload_n hx hb dX3_dropOldest_18 rfl (lv_at hl 2 rfl) ?_
  refine va_get (D := D) (ci := 3) (v := .ref a_t_stands) (C := RX3) (T := TX3) (N := 2) hx hb hts in_X3_dropOldest8_X3 hown hK hP 0 rfl rfl 1 (by decide) (hts _ m_X3_dropOldest8_f9) (fun _ h9 => h9) rfl dX3_dropOldest_19 ?_
  refine lv_iload_n hx hb dX3_dropOldest_22 rfl (lv_at hl 0 rfl) ?_
  refine lv_iconst (v := 1) hx hb dX3_dropOldest_23 (by decide) ?_
  refine lv_isub hx hb dX3_dropOldest_24 ?_
  refine W.eq (g2 := F0 m 25 ls [.int 6, .ref a_t_stands]) rfl ?_
  refine lv_aload_n hx hb dX3_dropOldest_25 rfl (lv_at hl 2 rfl) ?_
  refine va_get (D := D) (ci := 3) (v := .ref a_t_stands) (C := RX3) (T := TX3) (N := 2) hx hb hts in_X3_dropOldest8_X3 hown hK hP 0 rfl rfl 1 (by decide) (hts _ m_X3_dropOldest8_f9) (fun _ h9 => h9) rfl dX3_dropOldest_26 ?_
  refine lv_iload_n hx hb dX3_dropOldest_29 rfl (lv_at hl 0 rfl) ?_
  refine va_aldq (D := D) hx hb hK hP 1 3 rfl rfl (by unfold vp_in; decide) dX3_dropOldest_30 ?_
  refine W.eq (g2 := F0 m 31 ls [.ref (pad_t 7 0), .int 6, .ref a_t_stands]) rfl ?_
  refine va_astq (D := D) (ci := 6) (r := (RX6, TX6, 6)) hx hb hK hP hD hS 1 3 30 rfl rfl rfl rfl (by unfold vp_in; decide) dX3_dropOldest_31 (fun H locs hP hD hS => ?_)
  have hP : va_P D vwCl ((a_t, .inr (3, [.int t_size, .ref a_t_stands])) :: (a_t_stands, .inl (cS, 8, .inr (.inr (.inr (.inr (va_up (va_up (va_up (va_up (va_up (va_up (va_up (fun k => some (pad_t k 0)) 0 (some (pad_t 1 0))) 1 (some (pad_t 2 0))) 2 (some (pad_t 3 0))) 3 (some (pad_t 4 0))) 4 (some (pad_t 5 0))) 5 (some (pad_t 6 0))) 6 (some (pad_t 7 0)))))))) :: pileG8 cI pad_t pst_t) H := hP
  have hD : va_D A ((a_t, .inr (3, [.int t_size, .ref a_t_stands])) :: (a_t_stands, .inl (cS, 8, .inr (.inr (.inr (.inr (va_up (va_up (va_up (va_up (va_up (va_up (va_up (fun k => some (pad_t k 0)) 0 (some (pad_t 1 0))) 1 (some (pad_t 2 0))) 2 (some (pad_t 3 0))) 3 (some (pad_t 4 0))) 4 (some (pad_t 5 0))) 5 (some (pad_t 6 0))) 6 (some (pad_t 7 0)))))))) :: pileG8 cI pad_t pst_t) := hD
  refine lv_iinc (v := 8) (lv' := [(2, .int 8), (1, .ref (pad_t 0 0)), (0, .ref a_t)]) hx hb dX3_dropOldest_32 hl (k := 0) rfl (by decide) (by decide) rfl (fun ls hl => ?_)
  refine lv_goto (tgt := 9) hx hb dX3_dropOldest_35 (by decide) ?_
  refine lv_iload_n hx hb dX3_dropOldest_9 rfl (lv_at hl 0 rfl) ?_
  refine lv_aload_n hx hb dX3_dropOldest_10 rfl (lv_at hl 2 rfl) ?_
  refine va_get (D := D) (ci := 3) (v := .ref a_t_stands) (C := RX3) (T := TX3) (N := 2) hx hb hts in_X3_dropOldest8_X3 hown hK hP 0 rfl rfl 1 (by decide) (hts _ m_X3_dropOldest8_f9) (fun _ h9 => h9) rfl dX3_dropOldest_11 ?_
  refine va_alen (D := D) (v := 8) hx hb hK hP 1 3 rfl rfl rfl dX3_dropOldest_14 ?_
  refine lv_icmp_ge (tgt := 38) hx hb dX3_dropOldest_15 (by decide) (fun _ => ?_) (fun hc => absurd (by decide) hc)
  refine lv_aload_n hx hb dX3_dropOldest_38 rfl (lv_at hl 2 rfl) ?_
  refine va_get (D := D) (ci := 3) (v := .ref a_t_stands) (C := RX3) (T := TX3) (N := 2) hx hb hts in_X3_dropOldest8_X3 hown hK hP 0 rfl rfl 1 (by decide) (hts _ m_X3_dropOldest8_f9) (fun _ h9 => h9) rfl dX3_dropOldest_39 ?_
  refine lv_aload_n hx hb dX3_dropOldest_42 rfl (lv_at hl 2 rfl) ?_
  refine va_get (D := D) (ci := 3) (v := .ref a_t_stands) (C := RX3) (T := TX3) (N := 2) hx hb hts in_X3_dropOldest8_X3 hown hK hP 0 rfl rfl 1 (by decide) (hts _ m_X3_dropOldest8_f9) (fun _ h9 => h9) rfl dX3_dropOldest_43 ?_
  refine va_alen (D := D) (v := 8) hx hb hK hP 1 3 rfl rfl rfl dX3_dropOldest_46 ?_
  refine lv_iconst (v := 1) hx hb dX3_dropOldest_47 (by decide) ?_
  refine lv_isub hx hb dX3_dropOldest_48 ?_
  refine W.eq (g2 := F0 m 49 ls [.int 7, .ref a_t_stands]) rfl ?_
  refine lv_aload_n hx hb dX3_dropOldest_49 rfl (lv_at hl 1 rfl) ?_
  refine va_astq (D := D) (ci := 6) (r := (RX6, TX6, 6)) hx hb hK hP hD hS 1 3 2 rfl rfl rfl rfl (by unfold vp_in; decide) dX3_dropOldest_50 (fun H locs hP hD hS => ?_)
  have hP : va_P D vwCl ((a_t, .inr (3, [.int t_size, .ref a_t_stands])) :: (a_t_stands, .inl (cS, 8, .inr (.inr (.inr (.inr (va_up (va_up (va_up (va_up (va_up (va_up (va_up (va_up (fun k => some (pad_t k 0)) 0 (some (pad_t 1 0))) 1 (some (pad_t 2 0))) 2 (some (pad_t 3 0))) 3 (some (pad_t 4 0))) 4 (some (pad_t 5 0))) 5 (some (pad_t 6 0))) 6 (some (pad_t 7 0))) 7 (some (pad_t 0 0)))))))) :: pileG8 cI pad_t pst_t) H := hP
  have hD : va_D A ((a_t, .inr (3, [.int t_size, .ref a_t_stands])) :: (a_t_stands, .inl (cS, 8, .inr (.inr (.inr (.inr (va_up (va_up (va_up (va_up (va_up (va_up (va_up (va_up (fun k => some (pad_t k 0)) 0 (some (pad_t 1 0))) 1 (some (pad_t 2 0))) 2 (some (pad_t 3 0))) 3 (some (pad_t 4 0))) 4 (some (pad_t 5 0))) 5 (some (pad_t 6 0))) 6 (some (pad_t 7 0))) 7 (some (pad_t 0 0)))))))) :: pileG8 cI pad_t pst_t) := hD
  refine lv_aload_n hx hb dX3_dropOldest_51 rfl (lv_at hl 2 rfl) ?_
  refine lv_aload_n hx hb dX3_dropOldest_52 rfl (lv_at hl 2 rfl) ?_
  refine va_get (D := D) (ci := 3) (v := .ref a_t_stands) (C := RX3) (T := TX3) (N := 2) hx hb hts in_X3_dropOldest8_X3 hown hK hP 0 rfl rfl 1 (by decide) (hts _ m_X3_dropOldest8_f9) (fun _ h9 => h9) rfl dX3_dropOldest_53 ?_
  refine va_alen (D := D) (v := 8) hx hb hK hP 1 3 rfl rfl rfl dX3_dropOldest_56 ?_
  refine lv_iconst (v := 1) hx hb dX3_dropOldest_57 (by decide) ?_
  refine lv_isub hx hb dX3_dropOldest_58 ?_
  refine W.eq (g2 := F0 m 59 ls [.int 7, .ref a_t]) rfl ?_
  refine va_put (D := D) (ci := 3) (v := .int 7) (ty := .int) (C := RX3) (T := TX3) (N := 2) hx hb hts in_X3_dropOldest8_X3 tyX3 tyX3_ok nmX3 hown hK hP hD hS 0 rfl rfl 0 (by decide) (hts _ m_X3_dropOldest8_f16) (fun _ h9 => h9) rfl (by decide +kernel) rfl rfl (Nat.le_of_ble_eq_true rfl) dX3_dropOldest_59 (fun H locs hP hD hS => ?_)
  have hP : va_P D vwCl ((a_t, .inr (3, [.int 7, .ref a_t_stands])) :: (a_t_stands, .inl (cS, 8, .inr (.inr (.inr (.inr (va_up (va_up (va_up (va_up (va_up (va_up (va_up (va_up (fun k => some (pad_t k 0)) 0 (some (pad_t 1 0))) 1 (some (pad_t 2 0))) 2 (some (pad_t 3 0))) 3 (some (pad_t 4 0))) 4 (some (pad_t 5 0))) 5 (some (pad_t 6 0))) 6 (some (pad_t 7 0))) 7 (some (pad_t 0 0)))))))) :: pileG8 cI pad_t pst_t) H := hP
  have hD : va_D A ((a_t, .inr (3, [.int 7, .ref a_t_stands])) :: (a_t_stands, .inl (cS, 8, .inr (.inr (.inr (.inr (va_up (va_up (va_up (va_up (va_up (va_up (va_up (va_up (fun k => some (pad_t k 0)) 0 (some (pad_t 1 0))) 1 (some (pad_t 2 0))) 2 (some (pad_t 3 0))) 3 (some (pad_t 4 0))) 4 (some (pad_t 5 0))) 5 (some (pad_t 6 0))) 6 (some (pad_t 7 0))) 7 (some (pad_t 0 0)))))))) :: pileG8 cI pad_t pst_t) := hD
  have hP := va_P_refs hP 1 (fun k => some (rot8 pad_t k 0)) rfl (by intro k hk; match k, hk with | 0, _ => rfl | 1, _ => rfl | 2, _ => rfl | 3, _ => rfl | 4, _ => rfl | 5, _ => rfl | 6, _ => rfl | 7, _ => rfl)
  have hD := hD.set (p := 1) (e := .inl (cS, 8, .inr (.inr (.inr (.inr (fun k => some (rot8 pad_t k 0))))))) rfl
  have hP : va_P D vwCl (wX3_dropOldest8 cI cC cB cS a_t a_t_stands 7 (rot8 pad_t) (rot8 pst_t)) H := hP.sub [0, 1, 6, 7, 8, 9, 10, 11, 12, 13, 14, 15, 16, 17, 18, 19, 20, 21, 22, 23, 24, 25, 26, 27, 28, 29, 30, 31, 32, 33, 2, 3, 4, 5] rfl
  have hD : va_D A (wX3_dropOldest8 cI cC cB cS a_t a_t_stands 7 (rot8 pad_t) (rot8 pst_t)) := hD.sub [0, 1, 6, 7, 8, 9, 10, 11, 12, 13, 14, 15, 16, 17, 18, 19, 20, 21, 22, 23, 24, 25, 26, 27, 28, 29, 30, 31, 32, 33, 2, 3, 4, 5] (by decide +kernel) rfl
  exact hret (7, rot8 pst_t, rot8 pad_t) dX3_dropOldest_62 hp hP hD hS
theorem c_X3_dropOldest8 (l : Launch) (D : va_G) (cI cC cB cS : ClassId) (a_t a_t_stands : Nat) (t_size : Int32) (pad_t : Nat → Nat → Nat) (pst_t : Nat → (Int32 × Int32 × (Nat → Int32) × (Nat → Int32) × (Nat → Int32))) {post : Int32 → (Nat → (Int32 × Int32 × (Nat → Int32) × (Nat → Int32) × (Nat → Int32))) → Prop} (hp : P_X3_dropOldest8 t_size pst_t post) : CtrV l yX3_dropOldest wsX3_dropOldest rmX3_dropOldest8 D (tyL cI cC cB cS) [.ref a_t] (wX3_dropOldest8 cI cC cB cS a_t a_t_stands t_size pad_t pst_t) (fun (u : Int32 × (Nat → (Int32 × Int32 × (Nat → Int32) × (Nat → Int32) × (Nat → Int32))) × (Nat → Nat → Nat)) => post u.1 u.2.1) (fun u => (wX3_dropOldest8 cI cC cB cS a_t a_t_stands u.1 u.2.2 u.2.1)) 0 0 :=
  ctrV_of (cc := cX3_dropOldest) (maxL := 3) (by decide) rfl (Nat.le_of_ble_eq_true rfl) (fun X hret _ _ _ hP hD hS hl => k_X3_dropOldest8 l D cI cC cB cS a_t a_t_stands t_size pad_t pst_t hp X hret hP hD hS hl)
