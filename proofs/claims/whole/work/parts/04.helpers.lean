/-! what the contracts are made of: the array classes, the nest words, start and end of a method, calls -/
abbrev tyL (cI cC cB cS : ClassId) : List (ClassId × FieldType) := [(cI, .int), (cC, .char), (cB, .byte), (cS, .object "LeaningWalls$Stand")]
def zb (v : Int32) : Prop := v = 0 ∨ v = 1
theorem zb0 : zb 0 := Or.inl rfl
theorem zb1 : zb 1 := Or.inr rfl
theorem zb_n {v : Int32} (h : zb v) : narrow .boolean (.int v) = .int v := by rcases h with rfl | rfl <;> rfl
theorem zb_f {v : Int32} (h : zb v) : fits .boolean (.int v) = true := by rcases h with rfl | rfl <;> rfl
theorem pk_fm {α β : Type} {f : α → Option β} {is : List α} {l : List β} (h : is.map f = l.map some) : is.filterMap f = l := by
  induction is generalizing l with
  | nil =>
    cases l with
    | nil => rfl
    | cons b l => simp at h
  | cons a is ih =>
    cases l with
    | nil => simp at h
    | cons b l =>
      simp only [List.map_cons, List.cons.injEq] at h
      rw [List.filterMap_cons, h.1, ih h.2]
/-- the words of the class pool that only a nest mate has -/
def nwL : List Cond := [.methodLinkNest RX1 46 yX8_within "LeaningWalls", .methodLinkNest RX4 57 yX8_within "LeaningWalls", .methodLinkNest RX8 18 yX1_init "LeaningWalls", .methodLinkNest RX8 28 yX6_init "LeaningWalls", .methodLinkNest RX8 47 yX5_init "LeaningWalls", .methodLinkNest RX8 54 yX2_init "LeaningWalls", .methodLinkNest RX8 61 yX7_init "LeaningWalls", .methodLinkNest RX8 68 yX0_init "LeaningWalls", .methodLinkNest RX8 9 yX4_init "LeaningWalls", .methodLinkNest RX0 11 yX6_init "LeaningWalls", .methodLinkNest RX2 23 yX6_init "LeaningWalls", .methodLinkNest RX2 33 yX1_init "LeaningWalls", .methodLinkNest RX3 15 yX6_init "LeaningWalls", .methodLinkNest RX7 11 yX6_init "LeaningWalls", .methodLinkNest RX7 20 yX1_init "LeaningWalls"]
def nwAll (U : State) : Prop := ∀ w ∈ nwL, va_Nw w U
theorem nwL_form : ∀ w ∈ nwL, ∃ (a : String) (i : Nat) (x : MethodName) (h : String), w = .methodLinkNest a i x h := by
  intro w hw
  simp only [nwL, List.mem_cons, List.not_mem_nil, or_false] at hw
  rcases hw with rfl | rfl | rfl | rfl | rfl | rfl | rfl | rfl | rfl | rfl | rfl | rfl | rfl | rfl | rfl <;> exact ⟨_, _, _, _, rfl⟩
theorem nwAll_warm {s U : State} (hW : s.WarmedH U.vm) (h : nwAll s) : nwAll U := by
  intro w hw
  obtain ⟨a, i, x, k, rfl⟩ := nwL_form w hw
  exact va_Nw.warmM hW (h _ hw)
theorem nwAll_same {u U : State} (hv : u.vm = U.vm) (h : nwAll u) : nwAll U := by
  intro w hw
  obtain ⟨a, i, x, k, rfl⟩ := nwL_form w hw
  exact va_Nw.same rfl hv (h _ hw)
/-- a method's start: its cells, the tables -/
def hPre (D : va_G) (tys : List (ClassId × FieldType)) (av : List Value) (sz : Nat) (ws : va_W) : Array Value → State → Prop := va_Pc av (fun U => U.heap.size = sz ∧ va_P D vwCl ws U.heap ∧ va_K D vwCl tys U ∧ va_D (fun _ => True) ws ∧ nwAll U)
theorem hPre_blind {D : va_G} {tys : List (ClassId × FieldType)} {av : List Value} {sz : Nat} {ws : va_W} : FrameBlind (hPre D tys av sz ws) := fun a U g mk q => by
  obtain ⟨q0, q1, qP, qK, qD, qN⟩ := q
  exact ⟨q0, q1, qP, va_K.moved (u := U) (U := U.calling g mk a) (Vm.Alike.refl U.vm) qK, qD, nwAll_same (u := U) (U := U.calling g mk a) rfl qN⟩
/-- the world behind a method -/
def hPost {S : Type} (D : va_G) (tys : List (ClassId × FieldType)) (A : Nat → Prop) (Wn : S → va_W) : S → State → Prop := fun u t => va_P D vwCl (Wn u) t.heap ∧ va_K D vwCl tys t ∧ va_D A (Wn u)
def CtrI (l : Launch) (y : MethodName) (wsy : List Cond) (rm : Room) (D : va_G) (tys : List (ClassId × FieldType)) (av : List Value) (wc : va_W) {S : Type} (post : Int32 → S → Prop) (Wn : S → va_W) (mc ms : Nat) : Prop :=
  ∀ sz : Nat, Met l y wsy rm (hPre D tys av sz wc) (va_Qi post (hPost D tys (va_A wc sz) Wn) (va_A wc sz)) mc ms (va_A wc sz)
def CtrV (l : Launch) (y : MethodName) (wsy : List Cond) (rm : Room) (D : va_G) (tys : List (ClassId × FieldType)) (av : List Value) (wc : va_W) {S : Type} (post : S → Prop) (Wn : S → va_W) (mc ms : Nat) : Prop :=
  ∀ sz : Nat, Met l y wsy rm (hPre D tys av sz wc) (va_Qv post (hPost D tys (va_A wc sz) Wn) (va_A wc sz)) mc ms (va_A wc sz)
def CtrR (l : Launch) (y : MethodName) (wsy : List Cond) (rm : Room) (D : va_G) (tys : List (ClassId × FieldType)) (av : List Value) (wc : va_W) {S : Type} (ra : Nat) (post : S → Prop) (Wn : S → va_W) (mc ms : Nat) : Prop :=
  ∀ sz : Nat, Met l y wsy rm (hPre D tys av sz wc) (va_Qr post (fun u a t => a = ra ∧ hPost D tys (va_A wc sz) Wn u t) (va_A wc sz)) mc ms (va_A wc sz)
/-- what a walk of a method has at hand -/
abbrev WCtx (p : Program) (s : State) (m : MethodId) (args : Array Value) (c : Code) (cc : ByteArray) (maxL : Nat) (wsy : List Cond) (own : String) (H0 : Heap) (A : Nat → Prop) (D : va_G) (tys : List (ClassId × FieldType)) : Prop :=
  CallFix p m c cc maxL s args wsy own ∧ (∀ q, H0.size ≤ q → A q) ∧ va_K D vwCl tys s ∧ nwAll s
section CTR
variable {l : Launch} {y : MethodName} {wsy ws' : List Cond} {rm : Room} {D : va_G} {tys : List (ClassId × FieldType)} {av : List Value} {wc : va_W} {S : Type} {Wn : S → va_W} {mc ms : Nat} {cc : ByteArray} {maxL : Nat}
theorem ctrI_of {post : Int32 → S → Prop} (hy : plainName y.cls = true) (hw : wsy = Cond.code y cc maxL (some .int) :: ws') (hn : (lg_sl av).length ≤ maxL)
    (body : ∀ {p : Program} {e : Env} {s : State} {m : MethodId} {args : Array Value} {below : List Frame} {meth : Method} {c : Code} {Q : State → Prop} {A : Nat → Prop} {H0 : Heap},
      WCtx p s m args c cc maxL wsy y.cls H0 A D tys →
      (∀ {pc : Nat} {ls : Array Slot} {H : Heap} {locs : List Loc} {r : Int32} (u : S), decode cc pc = .ok (.ireturn, 1) → post r u → va_P D vwCl (Wn u) H → va_D A (Wn u) → va_S A H0 H locs → W p l e rm s m args below meth c H locs mc ms Q (F0 m pc ls [.int r])) →
      ∀ {H : Heap} {locs : List Loc} {ls : Array Slot}, va_P D vwCl wc H → va_D A wc → va_S A H0 H locs → lv_has ls maxL (lv_args 0 av) → W p l e rm s m args below meth c H locs 0 0 Q (F0 m 0 ls [])) : CtrI l y wsy rm D tys av wc post Wn mc ms := by
  intro sz
  refine Met.ofW (cc := cc) (maxL := maxL) (ret := some .int) hy hw ?_
  intro p e s m args below meth c s₁ B hml hv
  obtain ⟨rfl, hsz, hP, hK, hD0, hN⟩ := hv
  have hts := atoms_spec (ws := wsy) B.pre
  have hown : s.vm.findClass y.cls = some m.cls := findClass_of_methodNamed B.named
  subst hsz
  have hD := hD0.self (sz := s.heap.size)
  have hl := lv_entry av (n := maxL) hn
  rw [lg_entry_eq]
  exact body ⟨⟨B.exec, B.bytes, hml, hown, hts⟩, fun q h => Or.inr h, hK, hN⟩ (fun u hd hp hP hD hS => W.iret B.exec B.bytes B.returns (fun t ht hW => ⟨⟨_, u, rfl, hp, by rw [ht]; exact hP, va_K.moved hW.alike hK, hD⟩, hS.F ht⟩) hS.2.2 hd) hP hD va_S.rf hl
theorem ctrZ_of {post : Int32 → S → Prop} (hy : plainName y.cls = true) (hw : wsy = Cond.code y cc maxL (some .boolean) :: ws') (hn : (lg_sl av).length ≤ maxL)
    (body : ∀ {p : Program} {e : Env} {s : State} {m : MethodId} {args : Array Value} {below : List Frame} {meth : Method} {c : Code} {Q : State → Prop} {A : Nat → Prop} {H0 : Heap},
      WCtx p s m args c cc maxL wsy y.cls H0 A D tys →
      (∀ {pc : Nat} {ls : Array Slot} {H : Heap} {locs : List Loc} {r : Int32} (u : S), decode cc pc = .ok (.ireturn, 1) → zb r → post r u → va_P D vwCl (Wn u) H → va_D A (Wn u) → va_S A H0 H locs → W p l e rm s m args below meth c H locs mc ms Q (F0 m pc ls [.int r])) →
      ∀ {H : Heap} {locs : List Loc} {ls : Array Slot}, va_P D vwCl wc H → va_D A wc → va_S A H0 H locs → lv_has ls maxL (lv_args 0 av) → W p l e rm s m args below meth c H locs 0 0 Q (F0 m 0 ls [])) : CtrI l y wsy rm D tys av wc post Wn mc ms := by
  intro sz
  refine Met.ofW (cc := cc) (maxL := maxL) (ret := some .boolean) hy hw ?_
  intro p e s m args below meth c s₁ B hml hv
  obtain ⟨rfl, hsz, hP, hK, hD0, hN⟩ := hv
  have hts := atoms_spec (ws := wsy) B.pre
  have hown : s.vm.findClass y.cls = some m.cls := findClass_of_methodNamed B.named
  subst hsz
  have hD := hD0.self (sz := s.heap.size)
  have hl := lv_entry av (n := maxL) hn
  rw [lg_entry_eq]
  exact body ⟨⟨B.exec, B.bytes, hml, hown, hts⟩, fun q h => Or.inr h, hK, hN⟩ (fun u hd hz hp hP hD hS => W.zret B.exec B.bytes B.returns (zb_n hz) (fun t ht hW => ⟨⟨_, u, rfl, hp, by rw [ht]; exact hP, va_K.moved hW.alike hK, hD⟩, hS.F ht⟩) hS.2.2 hd) hP hD va_S.rf hl
theorem ctrV_of {post : S → Prop} (hy : plainName y.cls = true) (hw : wsy = Cond.code y cc maxL none :: ws') (hn : (lg_sl av).length ≤ maxL)
    (body : ∀ {p : Program} {e : Env} {s : State} {m : MethodId} {args : Array Value} {below : List Frame} {meth : Method} {c : Code} {Q : State → Prop} {A : Nat → Prop} {H0 : Heap},
      WCtx p s m args c cc maxL wsy y.cls H0 A D tys →
      (∀ {pc : Nat} {ls : Array Slot} {H : Heap} {locs : List Loc} (u : S), decode cc pc = .ok (.return_, 1) → post u → va_P D vwCl (Wn u) H → va_D A (Wn u) → va_S A H0 H locs → W p l e rm s m args below meth c H locs mc ms Q (F0 m pc ls [])) →
      ∀ {H : Heap} {locs : List Loc} {ls : Array Slot}, va_P D vwCl wc H → va_D A wc → va_S A H0 H locs → lv_has ls maxL (lv_args 0 av) → W p l e rm s m args below meth c H locs 0 0 Q (F0 m 0 ls [])) : CtrV l y wsy rm D tys av wc post Wn mc ms := by
  intro sz
  refine Met.ofW (cc := cc) (maxL := maxL) (ret := none) hy hw ?_
  intro p e s m args below meth c s₁ B hml hv
  obtain ⟨rfl, hsz, hP, hK, hD0, hN⟩ := hv
  have hts := atoms_spec (ws := wsy) B.pre
  have hown : s.vm.findClass y.cls = some m.cls := findClass_of_methodNamed B.named
  subst hsz
  have hD := hD0.self (sz := s.heap.size)
  have hl := lv_entry av (n := maxL) hn
  rw [lg_entry_eq]
  exact body ⟨⟨B.exec, B.bytes, hml, hown, hts⟩, fun q h => Or.inr h, hK, hN⟩ (fun u hd hp hP hD hS => W.vret B.exec B.bytes B.returns (fun t ht hW => ⟨⟨u, rfl, hp, by rw [ht]; exact hP, va_K.moved hW.alike hK, hD⟩, hS.F ht⟩) hS.2.2 hd) hP hD va_S.rf hl
theorem ctrR_of {ra : Nat} {C : String} {post : S → Prop} (hy : plainName y.cls = true) (hw : wsy = Cond.code y cc maxL (some (.object C)) :: ws') (hn : (lg_sl av).length ≤ maxL)
    (body : ∀ {p : Program} {e : Env} {s : State} {m : MethodId} {args : Array Value} {below : List Frame} {meth : Method} {c : Code} {Q : State → Prop} {A : Nat → Prop} {H0 : Heap},
      WCtx p s m args c cc maxL wsy y.cls H0 A D tys →
      (∀ {pc : Nat} {ls : Array Slot} {H : Heap} {locs : List Loc} (u : S), decode cc pc = .ok (.areturn, 1) → post u → va_P D vwCl (Wn u) H → va_D A (Wn u) → va_S A H0 H locs → W p l e rm s m args below meth c H locs mc ms Q (F0 m pc ls [.ref ra])) →
      ∀ {H : Heap} {locs : List Loc} {ls : Array Slot}, va_P D vwCl wc H → va_D A wc → va_S A H0 H locs → lv_has ls maxL (lv_args 0 av) → W p l e rm s m args below meth c H locs 0 0 Q (F0 m 0 ls [])) : CtrR l y wsy rm D tys av wc ra post Wn mc ms := by
  intro sz
  refine Met.ofW (cc := cc) (maxL := maxL) (ret := some (.object C)) hy hw ?_
  intro p e s m args below meth c s₁ B hml hv
  obtain ⟨rfl, hsz, hP, hK, hD0, hN⟩ := hv
  have hts := atoms_spec (ws := wsy) B.pre
  have hown : s.vm.findClass y.cls = some m.cls := findClass_of_methodNamed B.named
  subst hsz
  have hD := hD0.self (sz := s.heap.size)
  have hl := lv_entry av (n := maxL) hn
  rw [lg_entry_eq]
  exact body ⟨⟨B.exec, B.bytes, hml, hown, hts⟩, fun q h => Or.inr h, hK, hN⟩ (fun u hd hp hP hD hS => W.aret (v := .ref ra) B.exec B.bytes B.returns (Or.inl ⟨C, rfl⟩) (Or.inr ⟨ra, rfl⟩) (fun t ht hW => ⟨⟨u, ra, rfl, hp, rfl, by rw [ht]; exact hP, va_K.moved hW.alike hK, hD⟩, hS.F ht⟩) hS.2.2 hd) hP hD va_S.rf hl
end CTR
section HC
variable {p : Program} {l : Launch} {e : Env} {R : Room} {s : State} {m : MethodId} {args : Array Value} {below : List Frame} {meth : Method} {c : Code} {H : Heap} {locs : List Loc} {cells slots : Nat} {Q : State → Prop} {cc : ByteArray} {nL : Nat} {Ts : List Cond} {own : String} {A : Nat → Prop} {H0 : Heap} {D : va_G} {tys : List (ClassId × FieldType)} {ws wc : va_W} {pc : Nat} {ls : Array Slot} {rest st0 : List Value} {y : MethodName} {wsy ws' : List Cond} {rm : Room} {bytes : ByteArray} {maxL : Nat} {ret : Option FieldType} {index : Nat} {As : List Value} {b : Nat} {mc ms : Nat}
/-- a cell list by places -/
abbrev pkW (ws : va_W) (is : List Nat) : va_W := is.filterMap (fun i => ws[i]?)
/-- the places of a call: the callee's cells, the rest, the order behind it -/
abbrev hPl (ws wc : va_W) (isC isR : List Nat) : Prop := isC.map (fun i => ws[i]?) = wc.map some ∧ isR.map (fun i => ws[i]?) = (pkW ws isR).map some
abbrev hNd (isC isR isB : List Nat) : Bool := va_nd isC && (va_nd isR && (va_nd isB && isR.all (fun i => decide (i ∉ isC))))
theorem hNd_spec {isC isR isB : List Nat} (h : hNd isC isR isB = true) : va_nd isC = true ∧ va_nd isR = true ∧ va_nd isB = true ∧ ∀ i ∈ isR, i ∉ isC := by
  simp only [hNd, Bool.and_eq_true, List.all_eq_true, decide_eq_true_eq] at h
  exact ⟨h.1, h.2.1, h.2.2.1, h.2.2.2⟩
abbrev hNm (y : MethodName) (n : Nat) : Prop := y.cls ≠ "java/lang/invoke/MethodHandle" ∧ y.cls ≠ "java/lang/invoke/VarHandle" ∧ (parseMethodDescriptor y.desc).map (fun d => d.parameters.length) = some n
theorem hc_join {S : Type} {Wn wn : S → va_W} {u : S} {H1 : Heap} {isC isR isB : List Nat} (hP : va_P D vwCl ws H) (hD : va_D A ws) (hS : va_S A H0 H locs) (hA : ∀ q, H0.size ≤ q → A q) (hC : hPl ws wc isC isR) (hB : ∀ u, isB.map (fun i => (pkW ws isR ++ Wn u)[i]?) = (wn u).map some) (hn : hNd isC isR isB = true)
    (hk1 : ∀ q : Nat, q < H.size → ¬ va_A wc H.size q → H1[q]? = H[q]?) (hP1 : va_P D vwCl (Wn u) H1) (hD1 : va_D (va_A wc H.size) (Wn u)) : va_P D vwCl (wn u) H1 ∧ va_D A (wn u) := by
  obtain ⟨n1, n2, n3, n4⟩ := hNd_spec hn
  obtain ⟨hP2, hD2⟩ := va_join hP hD isC isR hC.1 hC.2 n2 n4 hk1 (va_free hD hS hA isC hC.1) hP1 hD1
  exact ⟨hP2.sub isB (pk_fm (hB u)), hD2.sub isB n3 (hB u)⟩
theorem hc_pre (hK : va_K D vwCl tys s) (hN : nwAll s) (hP : va_P D vwCl ws H) (hD : va_D A ws) {isC isR isB : List Nat} (hC : hPl ws wc isC isR) (hn : hNd isC isR isB = true) {av : List Value} : ∀ U : State, U.heap = H → s.WarmedH U.vm → hPre D tys av H.size wc av.toArray U := by
  obtain ⟨n1, n2, n3, n4⟩ := hNd_spec hn
  have hPc := hP.sub isC (pk_fm hC.1)
  have hDc := hD.sub isC n1 hC.1
  exact fun U hU hW => ⟨rfl, by rw [hU], by rw [hU]; exact hPc, va_K.moved hW.alike hK, hDc.weaken (fun _ _ _ _ => trivial), nwAll_warm hW hN⟩
theorem hcV_i {S : Type} {post : Int32 → S → Prop} {Wn : S → va_W} {C : String} {T : u_T} {N ci : Nat} {fs : List Value} (wn : S → va_W) (X : WCtx p s m args c cc nL Ts own H0 A D tys) (hP : va_P D vwCl ws H) (hD : va_D A ws) (hS : va_S A H0 H locs) (hl : ls.size = nL) (isC isR isB : List Nat) (n q0 : Nat)
    (hM : CtrI l y wsy rm D tys (.ref b :: As) wc post Wn mc ms) (hC : hPl ws wc isC isR) (hB : ∀ u, isB.map (fun i => (pkW ws isR ++ Wn u)[i]?) = (wn u).map some) (hn : hNd isC isR isB = true)
    (hG : GoodIn Ts (wsV own index C y wsy)) (hw : wsy = Cond.code y bytes maxL ret :: ws') (hrc : rm.cells = mc) (hrs : rm.slots = ms) (hy : y.cls = C) (hd : hNm y n) (hRm : rm.frames + 1 ≤ R.frames ∧ 8 + (maxL + 11) + rm.locals ≤ R.locals)
    (hc : vwCl[ci]? = some (C, T, N)) (he : ws[q0]? = some (b, .inr (ci, fs))) (hlen : As.length = n) (hst : st0 = As.reverse ++ .ref b :: rest) (hcat : (rest.map fun v => v.category).sum ≤ 8) (hdg : decode cc pc = .ok (.invokevirtual index, 3)) (hroom : cells + mc ≤ R.cells ∧ slots + ms ≤ R.slots)
    (kk : ∀ (r : Int32) (u : S) (H1 : Heap) (locs1 : List Loc), post r u → va_P D vwCl (wn u) H1 → va_D A (wn u) → va_S A H0 H1 locs1 → W p l e R s m args below meth c H1 locs1 (cells + mc) (slots + ms) Q (F0 m (pc + 3) ls (.int r :: rest))) : W p l e R s m args below meth c H locs cells slots Q (F0 m pc ls st0) := by
  obtain ⟨F, hA, hK, hN⟩ := X
  have hFc := va_free hD hS hA isC hC.1
  refine va_calli (va_runV F (hM H.size) (cwV n F.2.2.2.2 hG hw hrc hrs ⟨hy, hd⟩ hRm) ⟨hPre_blind, va_recv hK hP hc he, hc_pre hK hN hP hD hC hn⟩ rfl hlen hl hst (lv_room hcat) hdg hroom) hS (fun q _ h => hFc q h) hFc (fun r u t H1 locs1 ht hvm hw hBu hz1 hk1 hS1 => ?_)
  obtain ⟨hP1, hK1, hD1⟩ := hBu
  rw [ht] at hP1
  obtain ⟨hP2, hD2⟩ := hc_join hP hD hS hA hC hB hn hk1 hP1 hD1
  exact kk r u H1 locs1 hw hP2 hD2 hS1
theorem hcV_v {S : Type} {post : S → Prop} {Wn : S → va_W} {C : String} {T : u_T} {N ci : Nat} {fs : List Value} (wn : S → va_W) (X : WCtx p s m args c cc nL Ts own H0 A D tys) (hP : va_P D vwCl ws H) (hD : va_D A ws) (hS : va_S A H0 H locs) (hl : ls.size = nL) (isC isR isB : List Nat) (n q0 : Nat)
    (hM : CtrV l y wsy rm D tys (.ref b :: As) wc post Wn mc ms) (hC : hPl ws wc isC isR) (hB : ∀ u, isB.map (fun i => (pkW ws isR ++ Wn u)[i]?) = (wn u).map some) (hn : hNd isC isR isB = true)
    (hG : GoodIn Ts (wsV own index C y wsy)) (hw : wsy = Cond.code y bytes maxL ret :: ws') (hrc : rm.cells = mc) (hrs : rm.slots = ms) (hy : y.cls = C) (hd : hNm y n) (hRm : rm.frames + 1 ≤ R.frames ∧ 8 + (maxL + 11) + rm.locals ≤ R.locals)
    (hc : vwCl[ci]? = some (C, T, N)) (he : ws[q0]? = some (b, .inr (ci, fs))) (hlen : As.length = n) (hst : st0 = As.reverse ++ .ref b :: rest) (hcat : (rest.map fun v => v.category).sum ≤ 8) (hdg : decode cc pc = .ok (.invokevirtual index, 3)) (hroom : cells + mc ≤ R.cells ∧ slots + ms ≤ R.slots)
    (kk : ∀ (u : S) (H1 : Heap) (locs1 : List Loc), post u → va_P D vwCl (wn u) H1 → va_D A (wn u) → va_S A H0 H1 locs1 → W p l e R s m args below meth c H1 locs1 (cells + mc) (slots + ms) Q (F0 m (pc + 3) ls rest)) : W p l e R s m args below meth c H locs cells slots Q (F0 m pc ls st0) := by
  obtain ⟨F, hA, hK, hN⟩ := X
  have hFc := va_free hD hS hA isC hC.1
  refine va_callv (va_runV F (hM H.size) (cwV n F.2.2.2.2 hG hw hrc hrs ⟨hy, hd⟩ hRm) ⟨hPre_blind, va_recv hK hP hc he, hc_pre hK hN hP hD hC hn⟩ rfl hlen hl hst (lv_room hcat) hdg hroom) hS (fun q _ h => hFc q h) hFc (fun u t H1 locs1 ht hvm hw hBu hz1 hk1 hS1 => ?_)
  obtain ⟨hP1, hK1, hD1⟩ := hBu
  rw [ht] at hP1
  obtain ⟨hP2, hD2⟩ := hc_join hP hD hS hA hC hB hn hk1 hP1 hD1
  exact kk u H1 locs1 hw hP2 hD2 hS1
theorem hcV_r {S : Type} {ra : Nat} {post : S → Prop} {Wn : S → va_W} {C : String} {T : u_T} {N ci : Nat} {fs : List Value} (wn : S → va_W) (X : WCtx p s m args c cc nL Ts own H0 A D tys) (hP : va_P D vwCl ws H) (hD : va_D A ws) (hS : va_S A H0 H locs) (hl : ls.size = nL) (isC isR isB : List Nat) (n q0 : Nat)
    (hM : CtrR l y wsy rm D tys (.ref b :: As) wc ra post Wn mc ms) (hC : hPl ws wc isC isR) (hB : ∀ u, isB.map (fun i => (pkW ws isR ++ Wn u)[i]?) = (wn u).map some) (hn : hNd isC isR isB = true)
    (hG : GoodIn Ts (wsV own index C y wsy)) (hw : wsy = Cond.code y bytes maxL ret :: ws') (hrc : rm.cells = mc) (hrs : rm.slots = ms) (hy : y.cls = C) (hd : hNm y n) (hRm : rm.frames + 1 ≤ R.frames ∧ 8 + (maxL + 11) + rm.locals ≤ R.locals)
    (hc : vwCl[ci]? = some (C, T, N)) (he : ws[q0]? = some (b, .inr (ci, fs))) (hlen : As.length = n) (hst : st0 = As.reverse ++ .ref b :: rest) (hcat : (rest.map fun v => v.category).sum ≤ 8) (hdg : decode cc pc = .ok (.invokevirtual index, 3)) (hroom : cells + mc ≤ R.cells ∧ slots + ms ≤ R.slots)
    (kk : ∀ (u : S) (H1 : Heap) (locs1 : List Loc), post u → va_P D vwCl (wn u) H1 → va_D A (wn u) → va_S A H0 H1 locs1 → W p l e R s m args below meth c H1 locs1 (cells + mc) (slots + ms) Q (F0 m (pc + 3) ls (.ref ra :: rest))) : W p l e R s m args below meth c H locs cells slots Q (F0 m pc ls st0) := by
  obtain ⟨F, hA, hK, hN⟩ := X
  have hFc := va_free hD hS hA isC hC.1
  refine va_callr (va_runV F (hM H.size) (cwV n F.2.2.2.2 hG hw hrc hrs ⟨hy, hd⟩ hRm) ⟨hPre_blind, va_recv hK hP hc he, hc_pre hK hN hP hD hC hn⟩ rfl hlen hl hst (lv_room hcat) hdg hroom) hS (fun q _ h => hFc q h) hFc (fun u ra' t H1 locs1 ht hvm hw hBu hz1 hk1 hS1 => ?_)
  obtain ⟨rfl, hP1, hK1, hD1⟩ := hBu
  rw [ht] at hP1
  obtain ⟨hP2, hD2⟩ := hc_join hP hD hS hA hC hB hn hk1 hP1 hD1
  exact kk u H1 locs1 hw hP2 hD2 hS1
theorem hcS_i {S : Type} {post : Int32 → S → Prop} {Wn : S → va_W} (wn : S → va_W) (X : WCtx p s m args c cc nL Ts own H0 A D tys) (hP : va_P D vwCl ws H) (hD : va_D A ws) (hS : va_S A H0 H locs) (hl : ls.size = nL) (isC isR isB : List Nat) (n : Nat)
    (hM : CtrI l y wsy rm D tys As wc post Wn mc ms) (hC : hPl ws wc isC isR) (hB : ∀ u, isB.map (fun i => (pkW ws isR ++ Wn u)[i]?) = (wn u).map some) (hn : hNd isC isR isB = true)
    (hG : GoodIn Ts (va_wsS own index y wsy)) (hw : wsy = Cond.code y bytes maxL ret :: ws') (hrc : rm.cells = mc) (hrs : rm.slots = ms) (hd : hNm y n) (hRm : rm.frames + 1 ≤ R.frames ∧ 8 + (maxL + 11) + rm.locals ≤ R.locals)
    (hlen : As.length = n) (hst : st0 = As.reverse ++ rest) (hcat : (rest.map fun v => v.category).sum ≤ 8) (hdg : decode cc pc = .ok (.invokestatic index, 3)) (hroom : cells + mc ≤ R.cells ∧ slots + ms ≤ R.slots)
    (kk : ∀ (r : Int32) (u : S) (H1 : Heap) (locs1 : List Loc), post r u → va_P D vwCl (wn u) H1 → va_D A (wn u) → va_S A H0 H1 locs1 → W p l e R s m args below meth c H1 locs1 (cells + mc) (slots + ms) Q (F0 m (pc + 3) ls (.int r :: rest))) : W p l e R s m args below meth c H locs cells slots Q (F0 m pc ls st0) := by
  obtain ⟨F, hA, hK, hN⟩ := X
  have hFc := va_free hD hS hA isC hC.1
  refine va_calli (va_runS F (hM H.size) (va_cwS n F.2.2.2.2 hG hw hrc hrs hd hRm) ⟨hPre_blind, hc_pre hK hN hP hD hC hn⟩ rfl hlen hl hst (lv_room hcat) hdg hroom) hS (fun q _ h => hFc q h) hFc (fun r u t H1 locs1 ht hvm hw hBu hz1 hk1 hS1 => ?_)
  obtain ⟨hP1, hK1, hD1⟩ := hBu
  rw [ht] at hP1
  obtain ⟨hP2, hD2⟩ := hc_join hP hD hS hA hC hB hn hk1 hP1 hD1
  exact kk r u H1 locs1 hw hP2 hD2 hS1
theorem hcN_i {S : Type} {post : Int32 → S → Prop} {Wn : S → va_W} (wn : S → va_W) (X : WCtx p s m args c cc nL Ts own H0 A D tys) (hP : va_P D vwCl ws H) (hD : va_D A ws) (hS : va_S A H0 H locs) (hl : ls.size = nL) (isC isR isB : List Nat) (n : Nat)
    (hM : CtrI l y wsy rm D tys As wc post Wn mc ms) (hC : hPl ws wc isC isR) (hB : ∀ u, isB.map (fun i => (pkW ws isR ++ Wn u)[i]?) = (wn u).map some) (hn : hNd isC isR isB = true)
    (hG : GoodIn Ts wsy) (hw : wsy = Cond.code y bytes maxL ret :: ws') (hrc : rm.cells = mc) (hrs : rm.slots = ms) (hnw : .methodLinkNest own index y "LeaningWalls" ∈ nwL) (hini : Cond.initialized y.cls ∈ Ts) (hstt : Cond.static y ∈ Ts) (hd : hNm y n) (hRm : rm.frames + 1 ≤ R.frames ∧ 8 + (maxL + 11) + rm.locals ≤ R.locals)
    (hlen : As.length = n) (hst : st0 = As.reverse ++ rest) (hcat : (rest.map fun v => v.category).sum ≤ 8) (hdg : decode cc pc = .ok (.invokestatic index, 3)) (hroom : cells + mc ≤ R.cells ∧ slots + ms ≤ R.slots)
    (kk : ∀ (r : Int32) (u : S) (H1 : Heap) (locs1 : List Loc), post r u → va_P D vwCl (wn u) H1 → va_D A (wn u) → va_S A H0 H1 locs1 → W p l e R s m args below meth c H1 locs1 (cells + mc) (slots + ms) Q (F0 m (pc + 3) ls (.int r :: rest))) : W p l e R s m args below meth c H locs cells slots Q (F0 m pc ls st0) := by
  obtain ⟨F, hA, hK, hN⟩ := X
  have hFc := va_free hD hS hA isC hC.1
  refine va_calli (va_runSN F (hM H.size) ⟨va_cnB n F.2.2.2.2 hG hw hrc hrs (hN _ hnw) (F.2.2.2.2 _ hini) hd hRm, F.2.2.2.2 _ hstt, trivial⟩ ⟨hPre_blind, hc_pre hK hN hP hD hC hn⟩ rfl hlen hl hst (lv_room hcat) hdg hroom) hS (fun q _ h => hFc q h) hFc (fun r u t H1 locs1 ht hvm hw hBu hz1 hk1 hS1 => ?_)
  obtain ⟨hP1, hK1, hD1⟩ := hBu
  rw [ht] at hP1
  obtain ⟨hP2, hD2⟩ := hc_join hP hD hS hA hC hB hn hk1 hP1 hD1
  exact kk r u H1 locs1 hw hP2 hD2 hS1
/-- rows from their first place, as many as a number says -/
theorem hcopy (X : WCtx p s m args c cc nL Ts own H0 A D tys) (hP : va_P D vwCl ws H) (hD : va_D A ws) (hS : va_S A H0 H locs) (hl : ls.size = nL) (q0 q1 t0 : Nat) {a a0 : Nat} {c0 : ClassId} {n0 n1 : Nat} {f g : Nat → Int32} {ty : FieldType} (ha0 : ws[q0]? = some (a0, .inl (c0, n0, .inl f))) (ha1 : ws[q1]? = some (a, .inl (c0, n1, .inl g))) (ht0 : tys[t0]? = some (c0, ty)) (hprim : refKind ty = false)
    (hlink : Cond.methodLink own index arraycopyName ∈ Ts) (hnat : Cond.native arraycopyName ∈ Ts) (hstat : Cond.static arraycopyName ∈ Ts) (hini : Cond.initialized "java/lang/System" ∈ Ts) {n : Int32} {k : Nat} (hn : ¬ n < 0) (hk : n.toNatClampNeg = k) (h4 : k ≤ n0) (h5 : k ≤ n1) (hfit : ∀ i, i < k → fits ty (.int (f i)) = true)
    (hframes : 1 ≤ R.frames) (hlocals : (rest.map fun v => v.category).sum + 18 ≤ R.locals) (hdg : decode cc pc = .ok (.invokestatic index, 3))
    (kk : ∀ (H1 : Heap) (locs1 : List Loc), va_P D vwCl (ws.set q1 (a, .inl (c0, n1, .inl (va_cpy f g 0 0 k)))) H1 → va_D A (ws.set q1 (a, .inl (c0, n1, .inl (va_cpy f g 0 0 k)))) → va_S A H0 H1 locs1 → W p l e R s m args below meth c H1 locs1 cells slots Q (F0 m (pc + 3) ls rest)) : W p l e R s m args below meth c H locs cells slots Q (F0 m pc ls (.int n :: .int 0 :: .ref a :: .int 0 :: .ref a0 :: rest)) := by
  obtain ⟨⟨hx, hb, hml, hown, hts⟩, hA, hK, hN⟩ := X
  have z : (0 : Int32).toNatClampNeg = 0 := rfl
  refine va_copyi hx hb (hml.trans hl.symm) hown (hts _ hlink) (hts _ hnat) (hts _ hstat) (hts _ hini) hK hP hD hS q0 q1 t0 t0 ha0 ha1 ht0 ht0 hprim (by decide) (by decide) hn (by rw [z, hk]; omega) (by rw [z, hk]; omega) (fun i hi => by rw [z, Nat.zero_add]; exact hfit i (by omega)) hframes (by simpa [nativeFrameWords] using hlocals) hdg (fun H1 locs1 hP hD hS => ?_)
  rw [z, hk] at hP hD
  exact kk H1 locs1 hP hD hS
/-- the larger of two -/
theorem hmax (X : WCtx p s m args c cc nL Ts own H0 A D tys) (hl : ls.size = nL) (hlink : Cond.methodLink own index Lib.Math.max.name ∈ Ts) (hstat : Cond.static Lib.Math.max.name ∈ Ts) (hini : Cond.initialized "java/lang/Math" ∈ Ts) (hcode : Cond.code Lib.Math.max.name Lib.Math.max.code 2 (some .int) ∈ Ts)
    (hframes : 1 ≤ R.frames) (hlocals : (rest.map fun v => v.category).sum + 13 ≤ R.locals) (hc : cells ≤ R.cells) (hs : slots ≤ R.slots) {x y : Int32} (hdg : decode cc pc = .ok (.invokestatic index, 3))
    (kk : W p l e R s m args below meth c H locs cells slots Q (F0 m (pc + 3) ls (.int (if x < y then y else x) :: rest))) : W p l e R s m args below meth c H locs cells slots Q (F0 m pc ls (.int y :: .int x :: rest)) :=
  va_mmax X.1.1 X.1.2.1 (X.1.2.2.1.trans hl.symm) X.1.2.2.2.1 (X.1.2.2.2.2 _ hlink) (X.1.2.2.2.2 _ hstat) (X.1.2.2.2.2 _ hini) (X.1.2.2.2.2 _ hcode) hframes hlocals hc hs hdg kk
end HC
