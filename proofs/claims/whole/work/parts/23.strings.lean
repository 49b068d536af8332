/-! the one String constant: its length, its letters -/
def txtL : List Int32 := [102, 48, 44, 53, 44, 50, 48, 59, 102, 49, 44, 56, 44, 49, 50, 59, 102, 50, 44, 52, 44, 57, 59, 102, 51, 44, 51, 44, 49, 53, 59, 102, 52, 44, 54, 44, 51, 48, 59, 119, 48, 44, 49, 59, 119, 49, 44, 50, 59, 119, 50, 44, 51, 59, 119, 51, 44, 48, 59, 119, 48, 44, 52, 59, 119, 52, 44, 50, 59, 116, 48, 44, 50, 50, 59, 116, 49, 44, 49, 56, 59, 116, 52, 44, 50, 49, 59]
def txt8 (j : Nat) : Int32 := txtL.getD j 0
abbrev noA : Nat → Prop := fun _ => False
def strE (aK aV : Nat) (A : Nat → Prop) (U : State) (H : Heap) : Prop := va_O "java/lang/String" aK A U H ∧ va_OF "java/lang/String" "coder" "B" (.int 0) aK A U H ∧ va_OF "java/lang/String" "value" "[B" (.ref aV) aK A U H ∧ va_T .byte aV 87 (fun j => .int (txt8 j)) A U H ∧ va_Z "java/lang/String" "COMPACT_STRINGS" "Z" (.int 1) A U H ∧ va_Zq "jdk/internal/util/Preconditions" "SIOOBE_FORMATTER" "Ljava/util/function/BiFunction;" A U H
theorem strE.moved {aK aV : Nat} {A : Nat → Prop} {u U : State} {H : Heap} (hvm : u.vm.Alike U.vm) (h : strE aK aV A u H) : strE aK aV A U H := ⟨h.1.moved hvm, h.2.1.moved hvm, h.2.2.1.moved hvm, h.2.2.2.1.moved hvm, h.2.2.2.2.1.moved hvm, h.2.2.2.2.2.moved hvm⟩
theorem strE.kept {aK aV : Nat} {A : Nat → Prop} {U : State} {H H1 : Heap} (h : strE aK aV A U H) (hq : ∀ a : Nat, a < H.size → ¬ A a → H1[a]? = H[a]?) : strE aK aV A U H1 := ⟨h.1.kept hq, h.2.1.kept hq, h.2.2.1.kept hq, h.2.2.2.1.kept hq, h.2.2.2.2.1.kept hq, h.2.2.2.2.2.kept hq⟩
theorem va_Z.narrow' {C n d : String} {v : Value} {A B : Nat → Prop} {U : State} {H : Heap} (h : va_Z C n d v A U H) (hAB : ∀ q, B q → A q) : va_Z C n d v B U H := by
  obtain ⟨cf, kf, fi, f, a, cell, h1, h2, h3, h4, h5, h6, h7, h8⟩ := h
  exact ⟨cf, kf, fi, f, a, cell, h1, h2, h3, h4, h5, h6, h7, fun z => h8 (hAB a z)⟩
theorem strE.narrow {aK aV : Nat} {A B : Nat → Prop} {U : State} {H : Heap} (h : strE aK aV A U H) (hAB : ∀ q, B q → A q) : strE aK aV B U H := ⟨h.1.narrow hAB, h.2.1.narrow hAB, h.2.2.1.narrow hAB, h.2.2.2.1.narrow hAB, h.2.2.2.2.1.narrow' hAB, h.2.2.2.2.2.narrow hAB⟩
/-- contracts of methods that write nothing -/
def CtrP (l : Launch) (y : MethodName) (wsy : List Cond) (rm : Room) (av : List Value) (E : State → Prop) (post : Int32 → Prop) : Prop := Met l y wsy rm (va_Pc av E) (va_Qi (fun r (_ : Unit) => post r) (fun _ _ => True) noA) 0 0 noA
def CtrPV (l : Launch) (y : MethodName) (wsy : List Cond) (rm : Room) (av : List Value) (E : State → Prop) : Prop := Met l y wsy rm (va_Pc av E) (va_Qv (fun (_ : Unit) => True) (fun _ _ => True) noA) 0 0 noA
theorem ctrP_of {l : Launch} {y : MethodName} {wsy ws' : List Cond} {rm : Room} {av : List Value} {cc : ByteArray} {maxL : Nat} {ty : FieldType} {E : State → Prop} {post : Int32 → Prop} (hy : plainName y.cls = true) (hw : wsy = Cond.code y cc maxL (some ty) :: ws') (hn : (lg_sl av).length ≤ maxL)
    (body : ∀ {p : Program} {e : Env} {s : State} {m : MethodId} {args : Array Value} {below : List Frame} {meth : Method} {c : Code} {Q : State → Prop},
      CallFix p m c cc maxL s args wsy y.cls → E s →
      (∀ {pc : Nat} {ls : Array Slot} {H : Heap} {locs : List Loc} (r : Int32), decode cc pc = .ok (.ireturn, 1) → narrow ty (.int r) = .int r → post r → va_S noA s.heap H locs → W p l e rm s m args below meth c H locs 0 0 Q (F0 m pc ls [.int r])) →
      ∀ {ls : Array Slot}, lv_has ls maxL (lv_args 0 av) → W p l e rm s m args below meth c s.heap [] 0 0 Q (F0 m 0 ls [])) : CtrP l y wsy rm av E post := by
  refine Met.ofW (cc := cc) (maxL := maxL) (ret := some ty) hy hw ?_
  intro p e s m args below meth c s₁ B hml hv
  obtain ⟨rfl, hE⟩ := hv
  have hts := atoms_spec (ws := wsy) B.pre
  have hown : s.vm.findClass y.cls = some m.cls := findClass_of_methodNamed B.named
  have hl := lv_entry av (n := maxL) hn
  rw [lg_entry_eq]
  exact body ⟨B.exec, B.bytes, hml, hown, hts⟩ hE (fun r hd hz hp hS => W.zret B.exec B.bytes B.returns hz (fun t ht hW => ⟨⟨_, (), rfl, hp, trivial⟩, hS.F ht⟩) hS.2.2 hd) hl
theorem ctrPV_of {l : Launch} {y : MethodName} {wsy ws' : List Cond} {rm : Room} {av : List Value} {cc : ByteArray} {maxL : Nat} {E : State → Prop} (hy : plainName y.cls = true) (hw : wsy = Cond.code y cc maxL none :: ws') (hn : (lg_sl av).length ≤ maxL)
    (body : ∀ {p : Program} {e : Env} {s : State} {m : MethodId} {args : Array Value} {below : List Frame} {meth : Method} {c : Code} {Q : State → Prop},
      CallFix p m c cc maxL s args wsy y.cls → E s →
      (∀ {pc : Nat} {ls : Array Slot} {H : Heap} {locs : List Loc}, decode cc pc = .ok (.return_, 1) → va_S noA s.heap H locs → W p l e rm s m args below meth c H locs 0 0 Q (F0 m pc ls [])) →
      ∀ {ls : Array Slot}, lv_has ls maxL (lv_args 0 av) → W p l e rm s m args below meth c s.heap [] 0 0 Q (F0 m 0 ls [])) : CtrPV l y wsy rm av E := by
  refine Met.ofW (cc := cc) (maxL := maxL) (ret := none) hy hw ?_
  intro p e s m args below meth c s₁ B hml hv
  obtain ⟨rfl, hE⟩ := hv
  have hts := atoms_spec (ws := wsy) B.pre
  have hown : s.vm.findClass y.cls = some m.cls := findClass_of_methodNamed B.named
  have hl := lv_entry av (n := maxL) hn
  rw [lg_entry_eq]
  exact body ⟨B.exec, B.bytes, hml, hown, hts⟩ hE (fun hd hS => W.vret B.exec B.bytes B.returns (fun t ht hW => ⟨⟨(), rfl, trivial, trivial⟩, hS.F ht⟩) hS.2.2 hd) hl
abbrev blindE (E : State → Prop) : Prop := ∀ (U : State) (g : JFrame) (mk : MethodId) (a : Array Value), E U → E (U.calling g mk a)
theorem pc_blind {av : List Value} {E : State → Prop} (h : blindE E) : FrameBlind (va_Pc av E) := fun a U g mk q => ⟨q.1, h U g mk a q.2⟩
section HCP
variable {p : Program} {l : Launch} {e : Env} {R : Room} {s : State} {m : MethodId} {args : Array Value} {below : List Frame} {meth : Method} {c : Code} {H : Heap} {locs : List Loc} {cells slots : Nat} {Q : State → Prop} {cc : ByteArray} {nL : Nat} {Ts : List Cond} {own : String} {A : Nat → Prop} {H0 : Heap} {pc : Nat} {ls : Array Slot} {rest st0 : List Value} {y : MethodName} {wsy ws' : List Cond} {rm : Room} {bytes : ByteArray} {maxL : Nat} {ret : Option FieldType} {index : Nat} {As : List Value} {b : Nat} {E : State → Prop}
theorem hcP_V {post : Int32 → Prop} {C : String} (F : CallFix p m c cc nL s args Ts own) (hS : va_S A H0 H locs) (hl : ls.size = nL) (n : Nat) (hM : CtrP l y wsy rm (.ref b :: As) E post) (hE : blindE E) (hEU : ∀ U : State, U.heap = H → s.WarmedH U.vm → E U) (hrecv : ∃ cell : Cell, H[b]? = some cell ∧ cell.vm.isStatics = false ∧ s.vm.findClass C = some cell.cls)
    (hG : GoodIn Ts (wsV own index C y wsy)) (hw : wsy = Cond.code y bytes maxL ret :: ws') (hrc : rm.cells = 0) (hrs : rm.slots = 0) (hy : y.cls = C) (hd : hNm y n) (hRm : rm.frames + 1 ≤ R.frames ∧ 8 + (maxL + 11) + rm.locals ≤ R.locals)
    (hlen : As.length = n) (hst : st0 = As.reverse ++ .ref b :: rest) (hcat : (rest.map fun v => v.category).sum ≤ 8) (hdg : decode cc pc = .ok (.invokevirtual index, 3)) (hroom : cells ≤ R.cells ∧ slots ≤ R.slots)
    (kk : ∀ (r : Int32) (H1 : Heap) (locs1 : List Loc), post r → H.size ≤ H1.size → (∀ q : Nat, q < H.size → H1[q]? = H[q]?) → va_S A H0 H1 locs1 → W p l e R s m args below meth c H1 locs1 cells slots Q (F0 m (pc + 3) ls (.int r :: rest))) : W p l e R s m args below meth c H locs cells slots Q (F0 m pc ls st0) :=
  va_calli (mc := 0) (ms := 0) (va_runV F hM (cwV n F.2.2.2.2 hG hw hrc hrs ⟨hy, hd⟩ hRm) ⟨pc_blind hE, hrecv, fun U hU hW => ⟨rfl, hEU U hU hW⟩⟩ rfl hlen hl hst (lv_room hcat) hdg hroom) hS (fun q _ h => h.elim) (fun q h => h.elim) (fun r u t H1 locs1 ht hvm hw hBu hz1 hk1 hS1 => kk r H1 locs1 hw hz1 (fun q hq => hk1 q hq (fun z => z)) hS1)
theorem hcP_S {post : Int32 → Prop} (F : CallFix p m c cc nL s args Ts own) (hS : va_S A H0 H locs) (hl : ls.size = nL) (n : Nat) (hM : CtrP l y wsy rm As E post) (hE : blindE E) (hEU : ∀ U : State, U.heap = H → s.WarmedH U.vm → E U)
    (hG : GoodIn Ts (va_wsS own index y wsy)) (hw : wsy = Cond.code y bytes maxL ret :: ws') (hrc : rm.cells = 0) (hrs : rm.slots = 0) (hd : hNm y n) (hRm : rm.frames + 1 ≤ R.frames ∧ 8 + (maxL + 11) + rm.locals ≤ R.locals)
    (hlen : As.length = n) (hst : st0 = As.reverse ++ rest) (hcat : (rest.map fun v => v.category).sum ≤ 8) (hdg : decode cc pc = .ok (.invokestatic index, 3)) (hroom : cells ≤ R.cells ∧ slots ≤ R.slots)
    (kk : ∀ (r : Int32) (H1 : Heap) (locs1 : List Loc), post r → H.size ≤ H1.size → (∀ q : Nat, q < H.size → H1[q]? = H[q]?) → va_S A H0 H1 locs1 → W p l e R s m args below meth c H1 locs1 cells slots Q (F0 m (pc + 3) ls (.int r :: rest))) : W p l e R s m args below meth c H locs cells slots Q (F0 m pc ls st0) :=
  va_calli (mc := 0) (ms := 0) (va_runS F hM (va_cwS n F.2.2.2.2 hG hw hrc hrs hd hRm) ⟨pc_blind hE, fun U hU hW => ⟨rfl, hEU U hU hW⟩⟩ rfl hlen hl hst (lv_room hcat) hdg hroom) hS (fun q _ h => h.elim) (fun q h => h.elim) (fun r u t H1 locs1 ht hvm hw hBu hz1 hk1 hS1 => kk r H1 locs1 hw hz1 (fun q hq => hk1 q hq (fun z => z)) hS1)
theorem hcPV_S (F : CallFix p m c cc nL s args Ts own) (hS : va_S A H0 H locs) (hl : ls.size = nL) (n : Nat) (hM : CtrPV l y wsy rm As E) (hE : blindE E) (hEU : ∀ U : State, U.heap = H → s.WarmedH U.vm → E U)
    (hG : GoodIn Ts (va_wsS own index y wsy)) (hw : wsy = Cond.code y bytes maxL ret :: ws') (hrc : rm.cells = 0) (hrs : rm.slots = 0) (hd : hNm y n) (hRm : rm.frames + 1 ≤ R.frames ∧ 8 + (maxL + 11) + rm.locals ≤ R.locals)
    (hlen : As.length = n) (hst : st0 = As.reverse ++ rest) (hcat : (rest.map fun v => v.category).sum ≤ 8) (hdg : decode cc pc = .ok (.invokestatic index, 3)) (hroom : cells ≤ R.cells ∧ slots ≤ R.slots)
    (kk : ∀ (H1 : Heap) (locs1 : List Loc), H.size ≤ H1.size → (∀ q : Nat, q < H.size → H1[q]? = H[q]?) → va_S A H0 H1 locs1 → W p l e R s m args below meth c H1 locs1 cells slots Q (F0 m (pc + 3) ls rest)) : W p l e R s m args below meth c H locs cells slots Q (F0 m pc ls st0) :=
  va_callv (mc := 0) (ms := 0) (va_runS F hM (va_cwS n F.2.2.2.2 hG hw hrc hrs hd hRm) ⟨pc_blind hE, fun U hU hW => ⟨rfl, hEU U hU hW⟩⟩ rfl hlen hl hst (lv_room hcat) hdg hroom) hS (fun q _ h => h.elim) (fun q h => h.elim) (fun u t H1 locs1 ht hvm hw hBu hz1 hk1 hS1 => kk H1 locs1 hz1 (fun q hq => hk1 q hq (fun z => z)) hS1)
end HCP
theorem strE_blind {aK aV : Nat} : blindE (fun U => strE aK aV noA U U.heap) := fun U g mk a h => strE.moved (u := U) (U := U.calling g mk a) (Vm.Alike.refl U.vm) h
theorem true_blind : blindE (fun _ => True) := fun _ _ _ _ h => h
abbrev rmJ0 : Room := { frames := 0, cells := 0, slots := 0, locals := 0 }
theorem hNm_J0_coder : hNm yJ0_coder_7d493 0 := by decide +kernel
theorem hNm_J0_isLatin1 : hNm yJ0_isLatin1_aae02 0 := by decide +kernel
theorem hNm_J0_length : hNm yJ0_length_8abf5 0 := by decide +kernel
theorem hNm_J0_charAt : hNm yJ0_charAt_5068e 1 := by decide +kernel
theorem hNm_J1_charAt : hNm yJ1_charAt_3b067 2 := by decide +kernel
theorem hNm_J0_checkIndex : hNm yJ0_checkIndex_df160 2 := by decide +kernel
theorem hNm_J3_checkIndex : hNm yJ3_checkIndex_8e157 3 := by decide +kernel
/-- coder() -/
theorem c_J0_coder (l : Launch) (aK aV : Nat) : CtrP l yJ0_coder_7d493 wsJ0_coder_7d493 rmJ0 [.ref aK] (fun U => strE aK aV noA U U.heap) (fun r => r = 0) := by
  refine ctrP_of (cc := cJ0_coder_7d493) (maxL := 1) (by decide) rfl (Nat.le_of_ble_eq_true rfl) (fun {p e s m args below meth c Q} F hE hret {ls} hl => ?_)
  obtain ⟨hx, hb, hml, hown, hts⟩ := id F
  obtain ⟨-, h2, -, -, h5, -⟩ := hE
  have hS : va_S noA s.heap s.heap [] := va_S.rf
  refine va_gets hx hb h5 hS hown (hts (.fieldLink RJ0 38 "java/lang/String" "COMPACT_STRINGS" "Z") (by decide +kernel)) (fun _ h => h) dJ0_coder_7d493_0 ?_
  refine lv_if_eq (tgt := 13) hx hb dJ0_coder_7d493_3 (by decide) (fun hc => absurd hc (by decide)) (fun _ => ?_)
  refine lv_aload_n hx hb dJ0_coder_7d493_6 rfl (lv_at hl 0 rfl) ?_
  refine vk_getf hx hb h2 hS hown (hts (.fieldLink RJ0 15 "java/lang/String" "coder" "B") (by decide +kernel)) (fun _ h => h) dJ0_coder_7d493_7 ?_
  refine lv_goto (tgt := 14) hx hb dJ0_coder_7d493_10 (by decide) ?_
  exact hret 0 dJ0_coder_7d493_14 rfl rfl hS
theorem c_J0_isLatin1 (l : Launch) (aK aV : Nat) : CtrP l yJ0_isLatin1_aae02 wsJ0_isLatin1_aae02 rmJ0 [.ref aK] (fun U => strE aK aV noA U U.heap) (fun r => r = 1) := by
  refine ctrP_of (cc := cJ0_isLatin1_aae02) (maxL := 1) (by decide) rfl (Nat.le_of_ble_eq_true rfl) (fun {p e s m args below meth c Q} F hE hret {ls} hl => ?_)
  obtain ⟨hx, hb, hml, hown, hts⟩ := id F
  obtain ⟨-, h2, -, -, h5, -⟩ := hE
  have hS : va_S noA s.heap s.heap [] := va_S.rf
  refine va_gets hx hb h5 hS hown (hts (.fieldLink RJ0 38 "java/lang/String" "COMPACT_STRINGS" "Z") (by decide +kernel)) (fun _ h => h) dJ0_isLatin1_aae02_0 ?_
  refine lv_if_eq (tgt := 17) hx hb dJ0_isLatin1_aae02_3 (by decide) (fun hc => absurd hc (by decide)) (fun _ => ?_)
  refine lv_aload_n hx hb dJ0_isLatin1_aae02_6 rfl (lv_at hl 0 rfl) ?_
  refine vk_getf hx hb h2 hS hown (hts (.fieldLink RJ0 15 "java/lang/String" "coder" "B") (by decide +kernel)) (fun _ h => h) dJ0_isLatin1_aae02_7 ?_
  refine lv_if_ne (tgt := 17) hx hb dJ0_isLatin1_aae02_10 (by decide) (fun hc => absurd rfl hc) (fun _ => ?_)
  refine lv_iconst (v := 1) hx hb dJ0_isLatin1_aae02_13 (by decide) ?_
  refine lv_goto (tgt := 18) hx hb dJ0_isLatin1_aae02_14 (by decide) ?_
  exact hret 1 dJ0_isLatin1_aae02_18 rfl rfl hS
/-- length() -/
theorem c_J0_length (l : Launch) (aK aV : Nat) : CtrP l yJ0_length_8abf5 wsJ0_length_8abf5 { frames := 1, cells := 0, slots := 0, locals := 20 } [.ref aK] (fun U => strE aK aV noA U U.heap) (fun r => r = 87) := by
  refine ctrP_of (cc := cJ0_length_8abf5) (maxL := 1) (by decide) rfl (Nat.le_of_ble_eq_true rfl) (fun {p e s m args below meth c Q} F hE hret {ls} hl => ?_)
  obtain ⟨hx, hb, hml, hown, hts⟩ := id F
  obtain ⟨h1, h2, h3, h4, h5, h6⟩ := id hE
  have hS : va_S noA s.heap s.heap [] := va_S.rf
  refine lv_aload_n hx hb dJ0_length_8abf5_0 rfl (lv_at hl 0 rfl) ?_
  refine vk_getf hx hb h3 hS hown (hts (.fieldLink RJ0 9 "java/lang/String" "value" "[B") (by decide +kernel)) (fun _ h => h) dJ0_length_8abf5_1 ?_
  refine va_tlen hx hb h4 hS (v := 87) rfl dJ0_length_8abf5_4 ?_
  refine lv_aload_n hx hb dJ0_length_8abf5_5 rfl (lv_at hl 0 rfl) ?_
  have hrecv : ∃ cell : Cell, s.heap[aK]? = some cell ∧ cell.vm.isStatics = false ∧ s.vm.findClass RJ0 = some cell.cls := by
    obtain ⟨cell, q1, q2, q3, -⟩ := h1
    exact ⟨cell, q1, q2, q3⟩
  refine hcP_V (As := []) (rest := [.int 87]) F hS hl.1 0 (c_J0_coder l aK aV) strE_blind (fun U hU hW => by rw [hU]; exact hE.moved hW.alike) hrecv gJ0_length_8abf5_J0_coder_7d493 rfl rfl rfl rfl hNm_J0_coder ⟨Nat.le_of_ble_eq_true rfl, Nat.le_of_ble_eq_true rfl⟩ rfl rfl (Nat.le_of_ble_eq_true rfl) dJ0_length_8abf5_6 ⟨Nat.le_of_ble_eq_true rfl, Nat.le_of_ble_eq_true rfl⟩ (fun r H1 locs1 hr hz hk hS => ?_)
  subst hr
  refine lv_ishr hx hb dJ0_length_8abf5_9 ?_
  exact hret _ dJ0_length_8abf5_10 rfl (by decide) hS
/-- Preconditions.checkIndex(i, n, f) -/
theorem c_J3_checkIndex (l : Launch) (i n : Int32) (f : Value) (hf : f = .null ∨ ∃ t, f = .ref t) (h0 : ¬ i < 0) (hn : i < n) : CtrP l yJ3_checkIndex_8e157 wsJ3_checkIndex_8e157 rmJ0 [.int i, .int n, f] (fun _ => True) (fun r => r = i) := by
  refine ctrP_of (cc := cJ3_checkIndex_8e157) (maxL := 3) (by decide) rfl (by rcases hf with rfl | ⟨t, rfl⟩ <;> exact Nat.le_of_ble_eq_true rfl) (fun {p e s m args below meth c Q} F hE hret {ls} hl => ?_)
  obtain ⟨hx, hb, hml, hown, hts⟩ := id F
  have hS : va_S noA s.heap s.heap [] := va_S.rf
  have hl : lv_has ls 3 [(0, .int i), (1, .int n), (2, f)] := hl
  refine lv_iload_n hx hb dJ3_checkIndex_8e157_0 rfl (lv_at hl 0 rfl) ?_
  refine lv_if_lt (tgt := 9) hx hb dJ3_checkIndex_8e157_1 (by decide) (fun hc => absurd hc h0) (fun _ => ?_)
  refine lv_iload_n hx hb dJ3_checkIndex_8e157_4 rfl (lv_at hl 0 rfl) ?_
  refine lv_iload_n hx hb dJ3_checkIndex_8e157_5 rfl (lv_at hl 1 rfl) ?_
  refine lv_icmp_lt (tgt := 16) hx hb dJ3_checkIndex_8e157_6 (by decide) (fun _ => ?_) (fun hc => absurd hn hc)
  refine lv_iload_n hx hb dJ3_checkIndex_8e157_16 rfl (lv_at hl 0 rfl) ?_
  exact hret _ dJ3_checkIndex_8e157_17 rfl rfl hS
/-- String.checkIndex(i, n) -/
theorem c_J0_checkIndex (l : Launch) (aK aV : Nat) (i n : Int32) (h0 : ¬ i < 0) (hn : i < n) : CtrPV l yJ0_checkIndex_df160 wsJ0_checkIndex_df160 { frames := 1, cells := 0, slots := 0, locals := 22 } [.int i, .int n] (fun U => strE aK aV noA U U.heap) := by
  refine ctrPV_of (cc := cJ0_checkIndex_df160) (maxL := 2) (by decide) rfl (Nat.le_of_ble_eq_true rfl) (fun {p e s m args below meth c Q} F hE hret {ls} hl => ?_)
  obtain ⟨hx, hb, hml, hown, hts⟩ := id F
  obtain ⟨-, -, -, -, -, h6⟩ := id hE
  have hS : va_S noA s.heap s.heap [] := va_S.rf
  have hl : lv_has ls 2 [(0, .int i), (1, .int n)] := hl
  refine lv_iload_n hx hb dJ0_checkIndex_df160_0 rfl (lv_at hl 0 rfl) ?_
  refine lv_iload_n hx hb dJ0_checkIndex_df160_1 rfl (lv_at hl 1 rfl) ?_
  have key : ∀ f : Value, (f = .null ∨ ∃ t, f = .ref t) → va_Z "jdk/internal/util/Preconditions" "SIOOBE_FORMATTER" "Ljava/util/function/BiFunction;" f noA s s.heap → W p l e { frames := 1, cells := 0, slots := 0, locals := 22 } s m args below meth c s.heap [] 0 0 Q (F0 m 2 ls [.int n, .int i]) := by
    intro f hf hZ
    refine va_gets hx hb hZ hS hown (hts (.fieldLink RJ0 1053 "jdk/internal/util/Preconditions" "SIOOBE_FORMATTER" "Ljava/util/function/BiFunction;") (by decide +kernel)) (fun _ h => h) dJ0_checkIndex_df160_2 ?_
    refine hcP_S (As := [.int i, .int n, f]) (rest := []) F hS hl.1 3 (c_J3_checkIndex l i n f hf h0 hn) true_blind (fun _ _ _ => trivial) gJ0_checkIndex_df160_J3_checkIndex_8e157 rfl rfl rfl hNm_J3_checkIndex ⟨Nat.le_of_ble_eq_true rfl, Nat.le_of_ble_eq_true rfl⟩ rfl rfl (Nat.le_of_ble_eq_true rfl) dJ0_checkIndex_df160_5 ⟨Nat.le_of_ble_eq_true rfl, Nat.le_of_ble_eq_true rfl⟩ (fun r H1 locs1 hr hz hk hS => ?_)
    refine lv_pop hx hb dJ0_checkIndex_df160_8 rfl ?_
    exact hret dJ0_checkIndex_df160_9 hS
  rcases h6 with hZ | ⟨t, hZ⟩
  · exact key _ (Or.inl rfl) hZ
  · exact key _ (Or.inr ⟨t, rfl⟩) hZ
theorem txt_in : ∀ j, j < 87 → (0 ≤ (txt8 j).toInt ∧ (txt8 j).toInt < 128) ∧ ((txt8 j &&& 255).toUInt32 % 65536).toInt32 = txt8 j ∧ narrow .char (.int (txt8 j)) = .int (txt8 j) := by decide +kernel
/-- StringLatin1.charAt(v, i) -/
theorem c_J1_charAt (l : Launch) (aK aV : Nat) (j : Nat) (hj : j < 87) : CtrP l yJ1_charAt_3b067 wsJ1_charAt_3b067 { frames := 2, cells := 0, slots := 0, locals := 43 } [.ref aV, .int (nI j)] (fun U => strE aK aV noA U U.heap) (fun r => r = txt8 j) := by
  refine ctrP_of (cc := cJ1_charAt_3b067) (maxL := 2) (by decide) rfl (Nat.le_of_ble_eq_true rfl) (fun {p e s m args below meth c Q} F hE hret {ls} hl => ?_)
  obtain ⟨hx, hb, hml, hown, hts⟩ := id F
  have hS : va_S noA s.heap s.heap [] := va_S.rf
  have hl : lv_has ls 2 [(0, .ref aV), (1, .int (nI j))] := hl
  refine lv_iload_n hx hb dJ1_charAt_3b067_0 rfl (lv_at hl 1 rfl) ?_
  refine lv_aload_n hx hb dJ1_charAt_3b067_1 rfl (lv_at hl 0 rfl) ?_
  refine va_tlen hx hb hE.2.2.2.1 hS (v := 87) rfl dJ1_charAt_3b067_2 ?_
  refine hcPV_S (As := [.int (nI j), .int 87]) (rest := []) F hS hl.1 2 (c_J0_checkIndex l aK aV (nI j) 87 (nI_pos (by omega)) (by rw [show (87 : Int32) = nI 87 from rfl]; exact nI_lt hj (by omega))) strE_blind (fun U hU hW => by rw [hU]; exact hE.moved hW.alike) gJ1_charAt_3b067_J0_checkIndex_df160 rfl rfl rfl hNm_J0_checkIndex ⟨Nat.le_of_ble_eq_true rfl, Nat.le_of_ble_eq_true rfl⟩ rfl rfl (Nat.le_of_ble_eq_true rfl) dJ1_charAt_3b067_3 ⟨Nat.le_of_ble_eq_true rfl, Nat.le_of_ble_eq_true rfl⟩ (fun H1 locs1 hz hk hS => ?_)
  refine lv_aload_n hx hb dJ1_charAt_3b067_6 rfl (lv_at hl 0 rfl) ?_
  refine lv_iload_n hx hb dJ1_charAt_3b067_7 rfl (lv_at hl 1 rfl) ?_
  refine va_tb hx hb hE.2.2.2.1 hS (vp_in_nI hj (by omega)) (v := .int (txt8 j)) (by rw [nI_clamp (by omega)]) dJ1_charAt_3b067_8 ?_
  refine lv_sipush (v := 255) hx hb dJ1_charAt_3b067_9 (by decide) ?_
  refine lv_iand hx hb dJ1_charAt_3b067_12 ?_
  obtain ⟨-, e1, e2⟩ := txt_in j hj
  refine lv_i2c (v := txt8 j) hx hb dJ1_charAt_3b067_13 e1 ?_
  exact hret _ dJ1_charAt_3b067_14 e2 rfl hS
/-- charAt(i) -/
theorem c_J0_charAt (l : Launch) (aK aV : Nat) (j : Nat) (hj : j < 87) : CtrP l yJ0_charAt_5068e wsJ0_charAt_5068e { frames := 3, cells := 0, slots := 0, locals := 64 } [.ref aK, .int (nI j)] (fun U => strE aK aV noA U U.heap) (fun r => r = txt8 j) := by
  refine ctrP_of (cc := cJ0_charAt_5068e) (maxL := 2) (by decide) rfl (Nat.le_of_ble_eq_true rfl) (fun {p e s m args below meth c Q} F hE hret {ls} hl => ?_)
  obtain ⟨hx, hb, hml, hown, hts⟩ := id F
  obtain ⟨h1, h2, h3, h4, h5, h6⟩ := id hE
  have hS : va_S noA s.heap s.heap [] := va_S.rf
  have hl : lv_has ls 2 [(0, .ref aK), (1, .int (nI j))] := hl
  have hrecv : ∃ cell : Cell, s.heap[aK]? = some cell ∧ cell.vm.isStatics = false ∧ s.vm.findClass RJ0 = some cell.cls := by
    obtain ⟨cell, q1, q2, q3, -⟩ := h1
    exact ⟨cell, q1, q2, q3⟩
  refine lv_aload_n hx hb dJ0_charAt_5068e_0 rfl (lv_at hl 0 rfl) ?_
  refine hcP_V (As := []) (rest := []) F hS hl.1 0 (c_J0_isLatin1 l aK aV) strE_blind (fun U hU hW => by rw [hU]; exact hE.moved hW.alike) hrecv gJ0_charAt_5068e_J0_isLatin1_aae02 rfl rfl rfl rfl hNm_J0_isLatin1 ⟨Nat.le_of_ble_eq_true rfl, Nat.le_of_ble_eq_true rfl⟩ rfl rfl (Nat.le_of_ble_eq_true rfl) dJ0_charAt_5068e_1 ⟨Nat.le_of_ble_eq_true rfl, Nat.le_of_ble_eq_true rfl⟩ (fun r H1 locs1 hr hz hk hS => ?_)
  subst hr
  refine lv_if_eq (tgt := 16) hx hb dJ0_charAt_5068e_4 (by decide) (fun hc => absurd hc (by decide)) (fun _ => ?_)
  refine lv_aload_n hx hb dJ0_charAt_5068e_7 rfl (lv_at hl 0 rfl) ?_
  refine vk_getf hx hb h3 hS hown (hts (.fieldLink RJ0 9 "java/lang/String" "value" "[B") (by decide +kernel)) (fun _ h => h) dJ0_charAt_5068e_8 ?_
  refine lv_iload_n hx hb dJ0_charAt_5068e_11 rfl (lv_at hl 1 rfl) ?_
  refine hcP_S (As := [.ref aV, .int (nI j)]) (rest := []) F hS hl.1 2 (c_J1_charAt l aK aV j hj) strE_blind (fun U hU hW => by rw [hU]; exact (hE.kept (fun a ha _ => hk a ha)).moved hW.alike) gJ0_charAt_5068e_J1_charAt_3b067 rfl rfl rfl hNm_J1_charAt ⟨Nat.le_of_ble_eq_true rfl, Nat.le_of_ble_eq_true rfl⟩ rfl rfl (Nat.le_of_ble_eq_true rfl) dJ0_charAt_5068e_12 ⟨Nat.le_of_ble_eq_true rfl, Nat.le_of_ble_eq_true rfl⟩ (fun r H2 locs2 hr hz2 hk2 hS => ?_)
  subst hr
  exact hret _ dJ0_charAt_5068e_15 (txt_in j hj).2.2 rfl hS
