set_option maxHeartbeats 4000000 in
set_option maxRecDepth 100000 in
/-- the law's loop -/
theorem law_loop {p : Program} {l : Launch} {e : Env} {s : State} {m : MethodId} {below : List Frame} {meth : Method} {c : Code} {cells slots : Nat} {Q : State → Prop} {D : va_G} {cI cC cB cS : ClassId} {b L : Nat} {xs : Nat → Int32} {a d : Nat → Nat}
    (X : WCtx p s m #[Value.ref b] c cL_law 4 wsL_law RL s.heap (fun q : Nat => s.heap.size ≤ q) D (tyL cI cC cB cS)) (hX : va_X b L xs s s.heap) (hbl : b < s.heap.size) (hcl : cells ≤ 600000) (hsl : slots ≤ 7302250) (hL : L ≤ 2560)
    (kend : ∀ (H : Heap) (locs : List Loc) (ls : Array Slot), va_S (fun q : Nat => s.heap.size ≤ q) s.heap H locs → W p l e room_1 s m #[Value.ref b] below meth c H locs cells slots Q (F0 m 846 ls [])) :
    ∀ (n i : Nat), L ≤ i + n → i ≤ 2560 → ∀ (pad8 pad2 : Nat → Nat → Nat) (pst8 pst2 : Nat → SVt) (I J : Nat → Int32) (F G : Nat → Nat → Int32) (H : Heap) (locs : List Loc) (ls : Array Slot), va_P D vwCl (wCls cI cC cB cS a pad8 pad2 pst8 pst2 I F ++ wMod cI cC cB cS d J G) H → va_D (fun q : Nat => s.heap.size ≤ q) (wCls cI cC cB cS a pad8 pad2 pst8 pst2 I F ++ wMod cI cC cB cS d J G) → va_S (fun q : Nat => s.heap.size ≤ q) s.heap H locs → lv_has ls 4 (lawLv b (a 0) (d 0) i) → RelL pst8 pst2 I F J G → W p l e room_1 s m #[Value.ref b] below meth c H locs cells slots Q (F0 m 18 ls []) := by
  obtain ⟨⟨hx, hb, hml, hown, hts⟩, hA, hK, hN⟩ := id X
  have hbA : ¬ (fun q : Nat => s.heap.size ≤ q) b := Nat.not_le.mpr hbl
  intro n
  induction n with
  | zero =>
    intro i hn hi0 pad8 pad2 pst8 pst2 I J F G H locs ls hP hD hS hl hR
    refine lv_iload_n hx hb dL_law_18 rfl (lv_at hl 0 rfl) ?_
    refine lv_aload_n hx hb dL_law_19 rfl (lv_at hl 1 rfl) ?_
    refine va_slen hx hb hX hbl hbA hS dL_law_20 ?_
    refine lv_iconst (v := 5) hx hb dL_law_21 (by decide) ?_
    refine lv_isub hx hb dL_law_22 ?_
    refine lv_icmp_gt (tgt := 846) hx hb dL_law_23 (by decide) (fun _ => kend H locs ls hS) (fun hc => ?_)
    refine absurd (Int32.lt_iff_toInt_lt.mpr ?_) hc
    have e1 : (nI L - nI 5).toInt = (L : Int) - (5 : Nat) := pk_sub_toInt (by omega) (by omega)
    have e2 : (nI i).toInt = (i : Int) := nI_toInt (by omega)
    show (nI L - nI 5).toInt < (nI i).toInt
    rw [e1, e2]
    omega
  | succ n ih =>
    intro i hn hi0 pad8 pad2 pst8 pst2 I J F G H locs ls hP hD hS hl hR
    refine lv_iload_n hx hb dL_law_18 rfl (lv_at hl 0 rfl) ?_
    refine lv_aload_n hx hb dL_law_19 rfl (lv_at hl 1 rfl) ?_
    refine va_slen hx hb hX hbl hbA hS dL_law_20 ?_
    refine lv_iconst (v := 5) hx hb dL_law_21 (by decide) ?_
    refine lv_isub hx hb dL_law_22 ?_
    refine lv_icmp_gt (tgt := 846) hx hb dL_law_23 (by decide) (fun _ => kend H locs ls hS) (fun hc => ?_)
    have hi : i + 5 ≤ L := by
      have e1 : (nI L - nI 5).toInt = (L : Int) - (5 : Nat) := pk_sub_toInt (by omega) (by omega)
      have e2 : (nI i).toInt = (i : Int) := nI_toInt (by omega)
      have hc' : ¬ (nI L - nI 5).toInt < (nI i).toInt := fun z => hc (Int32.lt_iff_toInt_lt.mpr z)
      rw [e1, e2] at hc'
      omega
    have h0 : vp_in (nI i) L := ni_out (by omega) (by omega)
    refine lv_aload_n hx hb dL_law_26 rfl (lv_at hl 1 rfl) ?_
    refine lv_iload_n hx hb dL_law_27 rfl (lv_at hl 0 rfl) ?_
    refine va_sld hx hb hX hbl hbA hS h0 dL_law_28 ?_
    refine lv_bipush (v := 31) hx hb dL_law_29 (by decide) ?_
    refine lv_iand hx hb dL_law_31 ?_
    obtain ⟨k, hk, ek⟩ := pk_andE (xs (nI i).toNatClampNeg) (m := 31) 5 (by decide)
    refine W.eq (g2 := F0 m 32 ls [.int (nI k)]) (by rw [ek]) ?_
    have kk : ∀ (pad8 pad2 : Nat → Nat → Nat) (pst8 pst2 : Nat → SVt) (I J : Nat → Int32) (F G : Nat → Nat → Int32) (H : Heap) (locs : List Loc), va_P D vwCl (wCls cI cC cB cS a pad8 pad2 pst8 pst2 I F ++ wMod cI cC cB cS d J G) H → va_D (fun q : Nat => s.heap.size ≤ q) (wCls cI cC cB cS a pad8 pad2 pst8 pst2 I F ++ wMod cI cC cB cS d J G) → va_S (fun q : Nat => s.heap.size ≤ q) s.heap H locs → RelL pst8 pst2 I F J G → W p l e room_1 s m #[Value.ref b] below meth c H locs cells slots Q (F0 m 840 ls []) := by
      intro pad8 pad2 pst8 pst2 I J F G H locs hP hD hS hR
      refine lv_iinc (v := nI (i + 5)) (lv' := lawLv b (a 0) (d 0) (i + 5)) hx hb dL_law_840 hl (k := 0) rfl (na i 5) (by decide) rfl (fun ls hl => ?_)
      refine lv_goto (tgt := 18) hx hb dL_law_843 (by decide) ?_
      exact ih (i + 5) (by omega) (by omega) pad8 pad2 pst8 pst2 I J F G H locs ls hP hD hS hl hR
    have hk : k < 32 := hk
    by_cases h26 : 26 ≤ k
    · refine lv_tableOut (tgt := 840) hx hb dL_law_32 (Or.inr (by rw [nI_toInt (by omega)]; omega)) (by decide) ?_
      exact kk pad8 pad2 pst8 pst2 I J F G H locs hP hD hS hR
    · rcases (show k = 0 ∨ k = 1 ∨ k = 2 ∨ k = 3 ∨ k = 4 ∨ k = 5 ∨ k = 6 ∨ k = 7 ∨ k = 8 ∨ k = 9 ∨ k = 10 ∨ k = 11 ∨ k = 12 ∨ k = 13 ∨ k = 14 ∨ k = 15 ∨ k = 16 ∨ k = 17 ∨ k = 18 ∨ k = 19 ∨ k = 20 ∨ k = 21 ∨ k = 22 ∨ k = 23 ∨ k = 24 ∨ k = 25 by omega) with rfl | rfl | rfl | rfl | rfl | rfl | rfl | rfl | rfl | rfl | rfl | rfl | rfl | rfl | rfl | rfl | rfl | rfl | rfl | rfl | rfl | rfl | rfl | rfl | rfl | rfl
      · exact lv_tableIn (off := 120) (tgt := 152) hx hb dL_law_32 (by decide) (by decide) (by decide +kernel) (by decide) (lawC_0 X hX hbl hcl hsl hL hi hP hD hS hl hR kk)
      · exact lv_tableIn (off := 143) (tgt := 175) hx hb dL_law_32 (by decide) (by decide) (by decide +kernel) (by decide) (lawC_1 X hX hbl hcl hsl hL hi hP hD hS hl hR kk)
      · exact lv_tableIn (off := 156) (tgt := 188) hx hb dL_law_32 (by decide) (by decide) (by decide +kernel) (by decide) (lawC_2 X hX hbl hcl hsl hL hi hP hD hS hl hR kk)
      · exact lv_tableIn (off := 169) (tgt := 201) hx hb dL_law_32 (by decide) (by decide) (by decide +kernel) (by decide) (lawC_3 X hX hbl hcl hsl hL hi hP hD hS hl hR kk)
      · exact lv_tableIn (off := 182) (tgt := 214) hx hb dL_law_32 (by decide) (by decide) (by decide +kernel) (by decide) (lawC_4 X hX hbl hcl hsl hL hi hP hD hS hl hR kk)
      · exact lv_tableIn (off := 215) (tgt := 247) hx hb dL_law_32 (by decide) (by decide) (by decide +kernel) (by decide) (lawC_5 X hX hbl hcl hsl hL hi hP hD hS hl hR kk)
      · exact lv_tableIn (off := 248) (tgt := 280) hx hb dL_law_32 (by decide) (by decide) (by decide +kernel) (by decide) (lawC_6 X hX hbl hcl hsl hL hi hP hD hS hl hR kk)
      · exact lv_tableIn (off := 271) (tgt := 303) hx hb dL_law_32 (by decide) (by decide) (by decide +kernel) (by decide) (lawC_7 X hX hbl hcl hsl hL hi hP hD hS hl hR kk)
      · exact lv_tableIn (off := 294) (tgt := 326) hx hb dL_law_32 (by decide) (by decide) (by decide +kernel) (by decide) (lawC_8 X hX hbl hcl hsl hL hi hP hD hS hl hR kk)
      · exact lv_tableIn (off := 337) (tgt := 369) hx hb dL_law_32 (by decide) (by decide) (by decide +kernel) (by decide) (lawC_9 X hX hbl hcl hsl hL hi hP hD hS hl hR kk)
      · exact lv_tableIn (off := 360) (tgt := 392) hx hb dL_law_32 (by decide) (by decide) (by decide +kernel) (by decide) (lawC_10 X hX hbl hcl hsl hL hi hP hD hS hl hR kk)
      · exact lv_tableIn (off := 373) (tgt := 405) hx hb dL_law_32 (by decide) (by decide) (by decide +kernel) (by decide) (lawC_11 X hX hbl hcl hsl hL hi hP hD hS hl hR kk)
      · exact lv_tableIn (off := 416) (tgt := 448) hx hb dL_law_32 (by decide) (by decide) (by decide +kernel) (by decide) (lawC_12 X hX hbl hcl hsl hL hi hP hD hS hl hR kk)
      · exact lv_tableIn (off := 439) (tgt := 471) hx hb dL_law_32 (by decide) (by decide) (by decide +kernel) (by decide) (lawC_13 X hX hbl hcl hsl hL hi hP hD hS hl hR kk)
      · exact lv_tableIn (off := 482) (tgt := 514) hx hb dL_law_32 (by decide) (by decide) (by decide +kernel) (by decide) (lawC_14 X hX hbl hcl hsl hL hi hP hD hS hl hR kk)
      · exact lv_tableIn (off := 515) (tgt := 547) hx hb dL_law_32 (by decide) (by decide) (by decide +kernel) (by decide) (lawC_15 X hX hbl hcl hsl hL hi hP hD hS hl hR kk)
      · exact lv_tableIn (off := 548) (tgt := 580) hx hb dL_law_32 (by decide) (by decide) (by decide +kernel) (by decide) (lawC_16 X hX hbl hcl hsl hL hi hP hD hS hl hR kk)
      · exact lv_tableIn (off := 571) (tgt := 603) hx hb dL_law_32 (by decide) (by decide) (by decide +kernel) (by decide) (lawC_17 X hX hbl hcl hsl hL hi hP hD hS hl hR kk)
      · exact lv_tableIn (off := 614) (tgt := 646) hx hb dL_law_32 (by decide) (by decide) (by decide +kernel) (by decide) (lawC_18 X hX hbl hcl hsl hL hi hP hD hS hl hR kk)
      · exact lv_tableIn (off := 627) (tgt := 659) hx hb dL_law_32 (by decide) (by decide) (by decide +kernel) (by decide) (lawC_19 X hX hbl hcl hsl hL hi hP hD hS hl hR kk)
      · exact lv_tableIn (off := 640) (tgt := 672) hx hb dL_law_32 (by decide) (by decide) (by decide +kernel) (by decide) (lawC_20 X hX hbl hcl hsl hL hi hP hD hS hl hR kk)
      · exact lv_tableIn (off := 663) (tgt := 695) hx hb dL_law_32 (by decide) (by decide) (by decide +kernel) (by decide) (lawC_21 X hX hbl hcl hsl hL hi hP hD hS hl hR kk)
      · exact lv_tableIn (off := 716) (tgt := 748) hx hb dL_law_32 (by decide) (by decide) (by decide +kernel) (by decide) (lawC_22 X hX hbl hcl hsl hL hi hP hD hS hl hR kk)
      · exact lv_tableIn (off := 759) (tgt := 791) hx hb dL_law_32 (by decide) (by decide) (by decide +kernel) (by decide) (lawC_23 X hX hbl hcl hsl hL hi hP hD hS hl hR kk)
      · exact lv_tableIn (off := 772) (tgt := 804) hx hb dL_law_32 (by decide) (by decide) (by decide +kernel) (by decide) (lawC_24 X hX hbl hcl hsl hL hi hP hD hS hl hR kk)
      · exact lv_tableIn (off := 785) (tgt := 817) hx hb dL_law_32 (by decide) (by decide) (by decide +kernel) (by decide) (lawC_25 X hX hbl hcl hsl hL hi hP hD hS hl hR kk)
