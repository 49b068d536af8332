section
variable {xl : Int32} {xt : Nat → Int32} {cf cw ct : Int32} {ck ch co ctw ctp : Nat → Int32} {nd ns : Int32} {nl np nsh : Nat → Int32} {us : Int32} {p8 : Nat → SVt} {ks : Int32} {p2 : Nat → SVt} {zs : Int32} {zw zp zd : Nat → Int32}
variable {mf mw mt : Int32} {msort mh mfi mse mby moff slot : Nat → Int32} {acts keeps ml : Int32} {mtx : Nat → Int32} {seens : Int32} {sw sp st : Nat → Int32} {idl : Int32}
variable {nf nw nt : Int32} {so nh n1 n2 nb no : Nat → Int32}
/-! the two new objects -/
def txNL : List Nat := [102, 48, 44, 53, 44, 50, 48, 59, 102, 49, 44, 56, 44, 49, 50, 59, 102, 50, 44, 52, 44, 57, 59, 102, 51, 44, 51, 44, 49, 53, 59, 102, 52, 44, 54, 44, 51, 48, 59, 119, 48, 44, 49, 59, 119, 49, 44, 50, 59, 119, 50, 44, 51, 59, 119, 51, 44, 48, 59, 119, 48, 44, 52, 59, 119, 52, 44, 50, 59, 116, 48, 44, 50, 50, 59, 116, 49, 44, 49, 56, 59, 116, 52, 44, 50, 49, 59]
def txN (j : Nat) : Nat := txNL.getD j 0
theorem txN_ok : ∀ j, j < 87 → vp_nar .char (txt8 j) = txt8 j ∧ txt8 j = nI (txN j) ∧ txN j ≤ 126 := by decide +kernel
theorem ct1_ok : (parP 87 txN 201 cty0 0).1 = none := by decide +kernel
theorem ct1_eq : (parP 87 txN 201 cty0 0).2.1 = 5 ∧ (parP 87 txN 201 cty0 0).2.2.1 = 6 ∧ (parP 87 txN 201 cty0 0).2.2.2.1 = 3 := by decide +kernel
theorem ct1_f : ∀ f, f < 5 → (parP 87 txN 201 cty0 0).2.2.2.2.1 f = f ∧ (parP 87 txN 201 cty0 0).2.2.2.2.2.1 f = [5, 8, 4, 3, 6].getD f 0 ∧ (parP 87 txN 201 cty0 0).2.2.2.2.2.2.1 f = [20, 12, 9, 15, 30].getD f 0 := by decide +kernel
theorem ct1_w : ∀ w, w < 6 → (parP 87 txN 201 cty0 0).2.2.2.2.2.2.2.1 w = [0, 1, 2, 3, 0, 4].getD w 0 ∧ (parP 87 txN 201 cty0 0).2.2.2.2.2.2.2.2.1 w = [1, 2, 3, 0, 4, 2].getD w 0 := by decide +kernel
theorem ct1_t : ∀ t, t < 3 → (parP 87 txN 201 cty0 0).2.2.2.2.2.2.2.2.2.1 t = [0, 1, 4].getD t 0 ∧ (parP 87 txN 201 cty0 0).2.2.2.2.2.2.2.2.2.2 t = ([22 - 20, 18 - 20, 21 - 20] : List Int32).getD t 0 := by decide +kernel
theorem init_C {post : Int32 → Int32 → (Nat → Int32) → (Nat → Int32) → Int32 → Int32 → Int32 → (Nat → Int32) → (Nat → Int32) → (Nat → Int32) → (Nat → Int32) → (Nat → Int32) → (Nat → Int32) → Int32 → Int32 → (Nat → Int32) → (Nat → Int32) → (Nat → Int32) → Prop}
    (hp : ∀ (F W T : Nat) (kd hr ld A B tw : Nat → Nat) (tp : Nat → Int32), parP 87 txN 201 cty0 0 = (none, (F, W, T, kd, hr, ld, A, B, tw, tp)) → CtyV (F, W, T, kd, hr, ld, A, B, tw, tp) → ∀ fa' wa' tr' a nu' tW' tP' ow' ki' ho' la', CtC (F, W, T, kd, hr, ld, A, B, tw, tp) fa' wa' tr' tW' tP' ow' ki' ho' la' → ∀ xt' land' ps' sh', StC F (begS W A B hr ld F) 0 0 land' ps' sh' → post 0 a xt' nu' fa' wa' tr' ki' ho' la' ow' tW' tP' 0 0 land' ps' sh') : P_X8_init post := by
  have key : ∀ k i xt0, i + k = 87 → (∀ j, j < i → xt0 j = nI (txN j)) → P_X8_init_L119 post (k + 1) (nI i) (nI i) 0 xt0 (fun _ => 0) 0 0 0 (fun _ => 0) (fun _ => 0) (fun _ => 0) (fun _ => 0) (fun _ => 0) (fun _ => 0) 0 0 (fun _ => 0) (fun _ => 0) (fun _ => 0) := by
    intro k
    induction k with
    | zero =>
      intro i xt0 hi hx
      rw [P_X8_init_L119]
      have e : i = 87 := by omega
      rw [e]
      rw [e] at hx
      refine ⟨fun _ => ?_, fun q => absurd (by decide) q⟩
      have hT : TxR 87 txN (nI 87) xt0 := ⟨by omega, rfl, fun j hj => ⟨hx j hj, (txN_ok j hj).2.2⟩⟩
      refine readInto_C hT (fun b c' ec _ _ _ _ _ _ _ _ _ _ _ => ?_) (fun c' ec hV fa' wa' tr' a nu' tW' tP' ow' ki' ho' la' hC => ?_)
      · have := ct1_ok
        rw [ec] at this
        cases this
      · obtain ⟨F, W, T, kd, hr, ld, A, B, tw, tp⟩ := c'
        have hc1 : fa' = nI F := hC.1
        rw [hc1]
        refine begin_C (hr := hr) (ld := ld) (W := W) (A := A) (B := B) ⟨hV.1, by have := hV.2.1; omega, hV.2.2.2.1⟩ ⟨hC.2.1, hC.2.2.2.1⟩ (fun f hf => ⟨(hC.2.2.2.2.1 f hf).2.1, (hV.2.2.2.2.1 f hf).2.1, (hC.2.2.2.2.1 f hf).2.2⟩) (fun ps' sh' land' hS => ?_)
        rw [← hc1]
        exact hp F W T kd hr ld A B tw tp ec hV _ _ _ _ _ _ _ _ _ _ _ hC _ _ _ _ hS
    | succ k ih =>
      intro i xt0 hi hx
      rw [P_X8_init_L119]
      refine ⟨fun q => absurd q (by rw [show (87 : Int32) = nI 87 from rfl]; exact nI_ge (by omega) (by omega)), fun _ => ⟨ni_out (by omega) (by omega), ?_⟩⟩
      unfold P_X4_append
      obtain ⟨y1, y2, y3⟩ := txN_ok i (by omega)
      rw [cl (by omega), nI_1, y1]
      refine ⟨fun _ => ⟨ni_out (by omega) (by omega), ih (i + 1) _ (by omega) (fun j hj => ?_)⟩, fun q => absurd (by rw [show (200 : Int32) = nI 200 from rfl]; exact nI_lt (by omega) (by omega)) q⟩
      by_cases e : j = i
      · subst e; rw [pk_us]; exact y2
      · rw [pk_un e]; exact hx j (by omega)
  unfold P_X8_init
  exact ⟨88, key 87 0 _ (by omega) (fun j hj => by omega)⟩
theorem lives_M {k : Nat} {v0 v1 v2 : Int32} {post : Int32 → (Nat → Int32) → (Nat → Int32) → (Nat → Int32) → Prop} (hk : k < 6) (hp : post (nI (k + 1)) (upd so k v0) (upd nh k v1) (upd slot k v2)) : P_X9_lives 0 v0 v1 v2 (nI k) so nh slot post := by
  unfold P_X9_lives
  have e0 : (0 : Int32) + nI k = nI k := by rw [show (0 : Int32) = nI 0 from rfl, na, Nat.zero_add]
  rw [e0, nI_1, cl (by omega)]
  exact ⟨ni_out (by omega) (by omega), ni_out (by omega) (by omega), ni_out (by omega) (by omega), hp⟩
theorem stands_M {k : Nat} {a b : Int32} {post : Int32 → (Nat → Int32) → (Nat → Int32) → Prop} (hk : k < 9) (hp : post (nI (k + 1)) (upd n1 k a) (upd n2 k b)) : P_X9_stands a b (nI k) n1 n2 post := by
  unfold P_X9_stands
  rw [nI_1, cl (by omega)]
  exact ⟨ni_out (by omega) (by omega), ni_out (by omega) (by omega), hp⟩
theorem grows_M {k : Nat} {a b : Int32} {post : Int32 → (Nat → Int32) → (Nat → Int32) → Prop} (hk : k < 6) (hp : post (nI (k + 1)) (upd nb k a) (upd no k (b - 20))) : P_X9_grows a b (nI k) nb no post := by
  unfold P_X9_grows
  rw [nI_1, cl (by omega)]
  exact ⟨ni_out (by omega) (by omega), ni_out (by omega) (by omega), hp⟩
theorem initL_M {F W : Nat} {A B hr ld : Nat → Nat} {post : Int32 → Int32 → Int32 → Int32 → Int32 → Int32 → (Nat → Int32) → (Nat → Int32) → (Nat → Int32) → (Nat → Int32) → (Nat → Int32) → (Nat → Int32) → (Nat → Int32) → (Nat → Int32) → (Nat → Int32) → (Nat → Int32) → (Nat → Int32) → (Nat → Int32) → (Nat → Int32) → Prop} (hV : OwV F W A B) (hO : OwM W A B mw mfi mse) (hh : ∀ f, f < F → mh f = nI (hr f) ∧ hr f ≤ 12)
    (hp : ∀ sl, StM F 0 (begS W A B hr ld F) sl → post (nI F) mw mt nf nw nt msort mh mfi mse mby moff so nh n1 n2 nb no sl) :
    ∀ k i sl, i + k = F → StM F 0 (begS W A B hr ld i) sl → P_X9_init_L297 post (k + 1) (nI i) (nI F) mw mt nf nw nt msort mh mfi mse mby moff so nh n1 n2 nb no sl := by
  have hF := hV.1
  intro k
  induction k with
  | zero =>
    intro i sl hi hS
    rw [P_X9_init_L297]
    have e : i = F := by omega
    rw [e] at hS ⊢
    exact ⟨fun _ => hp _ hS, fun q => absurd (Int32.le_refl _) q⟩
  | succ k ih =>
    intro i sl hi hS
    rw [P_X9_init_L297]
    obtain ⟨y1, y2⟩ := hh i (by omega)
    refine ⟨fun q => absurd q (nI_ge (by omega) (by omega)), fun _ => ?_⟩
    rw [cl (by omega), nI_1, y1]
    exact ⟨ni_out (by omega) (by omega), evenly_M (b := 0) hV hO (by omega) hS (by omega) y2 (fun sl' hS' e => ih (i + 1) _ (by omega) hS')⟩
theorem init_q (p8 p2 : Nat → SVt) (zw zp zd mtx sw sp st : Nat → Int32) : P_X8_init (fun xl _ xt _ cf cw ct ck ch _ co ctw ctp nd ns nl np nsh => P_X9_init (fun mf mw mt _ _ _ msort mh mfi mse mby moff _ _ _ _ _ _ slot => RelX xl xt cf cw ct ck ch co ctw ctp nd ns nl np nsh 0 p8 0 p2 0 zw zp zd mf mw mt msort mh mfi mse mby moff slot 0 0 0 mtx 0 sw sp st 0)) := by
  refine init_C (fun F W T kd hr ld A B tw tp ec hV fa' wa' tr' a nu' tW' tP' ow' ki' ho' la' hC xt' land' ps' sh' hS => ?_)
  have e1 := ct1_eq
  have e2 := ct1_f
  have e3 := ct1_w
  have e4 := ct1_t
  rw [ec] at e1 e2 e3 e4
  dsimp only at e1 e2 e3 e4
  obtain ⟨hF, hW, hT⟩ := e1
  subst hF hW hT
  obtain ⟨g1, g2, g3, g4, g5, g6⟩ := hV
  obtain ⟨c1, c2, c3, c4, c5, c6⟩ := hC
  have hVo : OwV 5 6 A B := ⟨by omega, by omega, g4⟩
  unfold P_X9_init
  refine lives_M (k := 0) (by omega) ?_
  refine lives_M (k := 1) (by omega) ?_
  refine lives_M (k := 2) (by omega) ?_
  refine lives_M (k := 3) (by omega) ?_
  refine lives_M (k := 4) (by omega) ?_
  refine stands_M (k := 0) (by omega) ?_
  refine stands_M (k := 1) (by omega) ?_
  refine stands_M (k := 2) (by omega) ?_
  refine stands_M (k := 3) (by omega) ?_
  refine stands_M (k := 4) (by omega) ?_
  refine stands_M (k := 5) (by omega) ?_
  refine grows_M (k := 0) (by omega) ?_
  refine grows_M (k := 1) (by omega) ?_
  refine grows_M (k := 2) (by omega) ?_
  refine settles_M (fun so' h' b' o' f' s' es ew => ⟨6, ?_⟩)
  have vf : ∀ f, f < 5 → so' f = nI (kd f) ∧ h' f = nI (hr f) := by
    intro f hf
    obtain ⟨x1, x2, x3⟩ := e2 f hf
    rw [(es f (by omega)).1, (es f (by omega)).2.1, x1, x2]
    rcases (show f = 0 ∨ f = 1 ∨ f = 2 ∨ f = 3 ∨ f = 4 by omega) with rfl | rfl | rfl | rfl | rfl <;> exact ⟨rfl, rfl⟩
  have vw : ∀ w, w < 6 → f' w = nI (A w) ∧ s' w = nI (B w) := by
    intro w hw
    obtain ⟨x1, x2⟩ := e3 w hw
    rw [(ew w (by omega)).1, (ew w (by omega)).2, x1, x2]
    rcases (show w = 0 ∨ w = 1 ∨ w = 2 ∨ w = 3 ∨ w = 4 ∨ w = 5 by omega) with rfl | rfl | rfl | rfl | rfl | rfl <;> exact ⟨rfl, rfl⟩
  have vt : ∀ t, t < 3 → b' t = nI (tw t) ∧ o' t = tp t := by
    intro t ht
    obtain ⟨x1, x2⟩ := e4 t ht
    rw [(es t (by omega)).2.2.1, (es t (by omega)).2.2.2, x1, x2]
    rcases (show t = 0 ∨ t = 1 ∨ t = 2 by omega) with rfl | rfl | rfl <;> exact ⟨rfl, rfl⟩
  refine initL_M (F := 5) (W := 6) (hr := hr) (ld := ld) hVo ⟨rfl, vw⟩ (fun f hf => ⟨(vf f hf).2, (g5 f hf).2.1⟩) (fun sl hSl => ?_) 5 0 _ (by omega) ?_
  · refine ⟨⟨0, by omega, rfl, rfl, fun i hi => by omega⟩, rfl, 5, 6, 3, kd, hr, A, B, tw, tp, ?_, ⟨begS 6 A B hr ld 5, begS_V (by omega) (fun f hf => (g5 f hf).2.2.1) (fun f hf => (g5 f hf).2.1) 5 (Nat.le_refl _), hS, hSl⟩, ⟨0, by omega, rfl, rfl, fun k hk => by omega⟩, ⟨0, by omega, rfl, rfl, fun k hk => by omega⟩, ⟨0, by omega, rfl, rfl, fun k hk => by omega⟩⟩
    refine ⟨⟨by omega, by omega, g4, fun f hf => (g5 f hf).1⟩, by omega, by omega, by omega, fun f hf => (g5 f hf).2.1, fun f hf => (g5 f hf).2.2.2, g6, c1, rfl, c3, rfl, ⟨c2, c4, fun f hf => (c5 f hf).1⟩, ⟨rfl, vw, fun f hf => (vf f hf).1⟩, fun f hf => ⟨(c5 f hf).2.1, (vf f hf).2⟩, fun t ht => ⟨(c6 t ht).1, (vt t ht).1, (c6 t ht).2, (vt t ht).2⟩⟩
  · refine ⟨rfl, rfl, fun f hf => ?_, fun w hw => ?_⟩
    · show _ = nI (ld f)
      rw [(e2 f hf).2.2]
      rcases (show f = 0 ∨ f = 1 ∨ f = 2 ∨ f = 3 ∨ f = 4 by omega) with rfl | rfl | rfl | rfl | rfl <;> rfl
    · rcases (show w = 0 ∨ w = 1 ∨ w = 2 ∨ w = 3 ∨ w = 4 ∨ w = 5 ∨ w = 6 ∨ w = 7 ∨ w = 8 by omega) with rfl | rfl | rfl | rfl | rfl | rfl | rfl | rfl | rfl <;> exact ⟨rfl, rfl, rfl⟩
end
