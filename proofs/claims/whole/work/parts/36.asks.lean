section
variable {xl : Int32} {xt : Nat → Int32} {cf cw ct : Int32} {ck ch co ctw ctp : Nat → Int32} {nd ns : Int32} {nl np nsh : Nat → Int32} {us : Int32} {p8 : Nat → SVt} {ks : Int32} {p2 : Nat → SVt} {zs : Int32} {zw zp zd : Nat → Int32}
variable {mf mw mt : Int32} {msort mh mfi mse mby moff slot : Nat → Int32} {acts keeps ml : Int32} {mtx : Nat → Int32} {seens : Int32} {sw sp st : Nat → Int32} {idl : Int32}
/-! whose a tree is, which trees one has -/
def whoP (S : St) (A B tw : Nat → Nat) (tp : Nat → Int32) (t : Nat) : Nat := if S.2.2.2.1 (tw t) < tp t then B (tw t) else A (tw t)
theorem treeOwner_C {F W T t : Nat} {A B tw : Nat → Nat} {tp : Nat → Int32} {S : St} {post : Int32 → Prop} (hV : OwV F W A B) (hO : OwC W A B cw co) (hT : T ≤ 6) (ht : t < T) (htw : tw t < W) (e1 : ctw t = nI (tw t)) (e2 : ctp t = tp t) (hp : ∀ w, w < 9 → np w = S.2.2.2.1 w) (h : post (nI (whoP S A B tw tp t))) : P_X6_treeOwner (nI t) ctw np ctp co post := by
  have hW := hV.2.1
  unfold P_X6_treeOwner P_X6_treeOwner_b37
  rw [cl (by omega), e1, cl (by omega), e2, hp _ (by omega), ni2s, ni2, cl (by omega), cl (by omega), (hO.2 _ htw).1, (hO.2 _ htw).2]
  unfold whoP at h
  refine ⟨ni_out (by omega) (by omega), ni_out (by omega) (by omega), ni_out (by omega) (by omega), fun q => ⟨ni_out (by omega) (by omega), ?_⟩, fun q => ⟨ni_out (by omega) (by omega), ?_⟩⟩
  · rw [if_pos q] at h; exact h
  · rw [if_neg q] at h; exact h
theorem whose_M {F W T t b : Nat} {A B tw : Nat → Nat} {tp : Nat → Int32} {S : St} {post : Int32 → Prop} (hb : b + 35 ≤ 420) (hV : OwV F W A B) (hO : OwM W A B mw mfi mse) (hT : T ≤ 6) (ht : t < T) (htw : tw t < W) (e1 : mby t = nI (tw t)) (e2 : moff t = tp t) (hS : StM F b S slot) (h : post (nI (whoP S A B tw tp t))) : P_X9_whose (nI b) (nI t) mby slot moff mfi mse post := by
  have hW := hV.2.1
  unfold P_X9_whose
  rw [cl (by omega), e1, l6, na, na, cl (by omega), cl (by omega), e2, (hS.2.2.2 _ (by omega)).1, (hO.2 _ htw).1, (hO.2 _ htw).2]
  unfold whoP at h
  refine ⟨ni_out (by omega) (by omega), ni_out (by omega) (by omega), ni_out (by omega) (by omega), fun q => ⟨ni_out (by omega) (by omega), ni_out (by omega) (by omega), ?_⟩, fun q => ⟨ni_out (by omega) (by omega), ni_out (by omega) (by omega), ?_⟩⟩
  · rw [if_pos q] at h; exact h
  · rw [if_neg q] at h; exact h
def trB (who : Nat → Nat) (f : Nat) : Nat → Int32
  | 0 => 0
  | t + 1 => if who t = f then trB who f t ||| (1 <<< (nI t &&& 31)) else trB who f t
theorem whoP_lt {F W : Nat} {A B tw : Nat → Nat} {tp : Nat → Int32} {S : St} {t : Nat} (hV : OwV F W A B) (htw : tw t < W) : whoP S A B tw tp t < F := by
  obtain ⟨h1, h2, -⟩ := hV.2.2 _ htw
  unfold whoP; split
  · exact h2
  · exact h1
theorem treesOf_C {F W T f : Nat} {A B tw : Nat → Nat} {tp : Nat → Int32} {S : St} {post : Int32 → Prop} (hV : OwV F W A B) (hO : OwC W A B cw co) (hf : f < F) (hT : T ≤ 6) (htw : ∀ t, t < T → tw t < W) (e1 : ∀ t, t < T → ctw t = nI (tw t) ∧ ctp t = tp t) (hp : ∀ w, w < 9 → np w = S.2.2.2.1 w) (h : post (trB (whoP S A B tw tp) f T)) : P_X8_treesOf (nI f) (nI T) ctw np ctp co post := by
  have hF := hV.1
  unfold P_X8_treesOf
  refine ⟨T + 1, ?_⟩
  have key : ∀ k i, i + k = T → P_X8_treesOf_L4 (nI T) ctw np ctp co post (k + 1) (nI f) (trB (whoP S A B tw tp) f i) (nI i) := by
    intro k
    induction k with
    | zero =>
      intro i hi
      rw [P_X8_treesOf_L4]
      have e : i = T := by omega
      subst e
      exact ⟨fun _ => h, fun q => absurd (nI_le (Nat.le_refl _) (by omega)) q⟩
    | succ k ih =>
      intro i hi
      rw [P_X8_treesOf_L4]
      refine ⟨fun q => absurd q (nI_ge (by omega) (by omega)), fun _ => ?_⟩
      have hl := whoP_lt (S := S) (tp := tp) hV (htw i (by omega))
      refine treeOwner_C hV hO hT (by omega) (htw i (by omega)) (e1 i (by omega)).1 (e1 i (by omega)).2 hp ?_
      unfold P_X8_treesOf_b37
      have := ih (i + 1) (by omega)
      rw [trB] at this
      rw [nI_1, nI_eq (by omega) (by omega)]
      refine ⟨fun q => ?_, fun q => ?_⟩
      · rw [if_neg q] at this; exact this
      · rw [if_pos q] at this; exact this
  exact key T 0 (by omega)
theorem treesOf_M {F W T f : Nat} {A B tw : Nat → Nat} {tp : Nat → Int32} {S : St} {post : Int32 → Prop} (hV : OwV F W A B) (hO : OwM W A B mw mfi mse) (hf : f < F) (hT : T ≤ 6) (htw : ∀ t, t < T → tw t < W) (e1 : ∀ t, t < T → mby t = nI (tw t) ∧ moff t = tp t) (hS : StM F 0 S slot) (h : post (trB (whoP S A B tw tp) f T)) : P_X9_treesOf 0 (nI f) (nI T) mby slot moff mfi mse post := by
  have hF := hV.1
  unfold P_X9_treesOf
  refine ⟨T + 1, ?_⟩
  have key : ∀ k i, i + k = T → P_X9_treesOf_L5 (nI T) mby slot moff mfi mse post (k + 1) 0 (nI f) (trB (whoP S A B tw tp) f i) (nI i) := by
    intro k
    induction k with
    | zero =>
      intro i hi
      rw [P_X9_treesOf_L5]
      have e : i = T := by omega
      subst e
      exact ⟨fun _ => h, fun q => absurd (nI_le (Nat.le_refl _) (by omega)) q⟩
    | succ k ih =>
      intro i hi
      rw [P_X9_treesOf_L5]
      refine ⟨fun q => absurd q (nI_ge (by omega) (by omega)), fun _ => ?_⟩
      have hl := whoP_lt (S := S) (tp := tp) hV (htw i (by omega))
      refine whose_M (b := 0) (by omega) hV hO hT (by omega) (htw i (by omega)) (e1 i (by omega)).1 (e1 i (by omega)).2 hS ?_
      unfold P_X9_treesOf_b34
      have := ih (i + 1) (by omega)
      rw [trB] at this
      rw [nI_1, nI_eq (by omega) (by omega), Int32.or_zero]
      refine ⟨fun q => ?_, fun q => ?_⟩
      · rw [if_neg q] at this; exact this
      · rw [if_pos q] at this; exact this
  exact key T 0 (by omega)
theorem q_tree (h : RelX xl xt cf cw ct ck ch co ctw ctp nd ns nl np nsh us p8 ks p2 zs zw zp zd mf mw mt msort mh mfi mse mby moff slot acts keeps ml mtx seens sw sp st idl) (x : Int32) : P_X8_tree x ct ctw np ctp co (fun r => P_X9_tree x mt mby slot moff mfi mse (fun r' => r = r')) := by
  obtain ⟨hT, hI, F, W, T, kd, hr, A, B, tw, tp, hC, hN, hU, hK, hZ⟩ := h
  obtain ⟨hV, hF1, hW8, hT6, -, -, htw, ecf, emf, ect, emt, hKC, hKM, -, hrow⟩ := id hC
  obtain ⟨S, hS, hSC, hSM⟩ := hN
  unfold P_X8_tree P_X9_tree
  subst ect; subst emt
  by_cases h1 : InR x 0 (nI T - 1)
  · refine treC_1 h1 ⟨fun z => absurd z (by decide), fun _ => ?_⟩
    obtain ⟨t, ht, rfl⟩ := InR_n (by omega) h1
    refine treeOwner_C hV.ow hKC.ow hT6 ht (htw t ht) (hrow t ht).1 (hrow t ht).2.2.1 (fun w hw => (hSC.2.2.2 w hw).1) ?_
    refine in_y h1 e64_0 rfl ⟨fun z => absurd z (by decide), fun _ => ?_⟩
    exact whose_M (b := 0) (by omega) hV.ow hKM.ow hT6 ht (htw t ht) (hrow t ht).2.1 (hrow t ht).2.2.2 hSM rfl
  · refine treC_0 h1 ⟨fun _ => ?_, fun z => absurd rfl z⟩
    exact in_n h1 e64_0 rfl ⟨fun _ => rfl, fun z => absurd rfl z⟩
/-! sums -/
theorem landOfAll_C {F : Nat} {ld : Nat → Nat} {post : Int32 → Prop} (hF : F ≤ 6) (hl : ∀ f, f < F → nl f = nI (ld f)) (h : post (nI (sumN ld F))) : P_X8_landOfAll (nI F) nl post := by
  unfold P_X8_landOfAll
  refine ⟨F + 1, ?_⟩
  have key : ∀ k i, i + k = F → P_X8_landOfAll_L4 (nI F) nl post (k + 1) (nI (sumN ld i)) (nI i) := by
    intro k
    induction k with
    | zero =>
      intro i hi
      rw [P_X8_landOfAll_L4]
      have e : i = F := by omega
      subst e
      exact ⟨fun _ => h, fun q => absurd (nI_le (Nat.le_refl _) (by omega)) q⟩
    | succ k ih =>
      intro i hi
      rw [P_X8_landOfAll_L4]
      refine ⟨fun q => absurd q (nI_ge (by omega) (by omega)), fun _ => ⟨ni_out (by omega) (by omega), ?_⟩⟩
      rw [cl (by omega), hl i (by omega), na, nI_1]
      exact ih (i + 1) (by omega)
  exact key F 0 (by omega)
theorem sumOf_1 {F : Nat} {ld : Nat → Nat} {post : Int32 → Prop} (hF : F ≤ 6) (hl : ∀ f, f < F → slot f = nI (ld f)) (h : post (nI (sumN ld F))) : P_X9_sumOf 1 (nI F) slot post := by
  unfold P_X9_sumOf
  refine ⟨F + 1, ?_⟩
  have key : ∀ k i, i + k = F → P_X9_sumOf_L4 (nI F) slot post (k + 1) 1 (nI (sumN ld i)) (nI i) := by
    intro k
    induction k with
    | zero =>
      intro i hi
      rw [P_X9_sumOf_L4]
      have e : i = F := by omega
      subst e
      exact ⟨fun _ => h, fun q => absurd (nI_le (Nat.le_refl _) (by omega)) q⟩
    | succ k ih =>
      intro i hi
      rw [P_X9_sumOf_L4]
      refine ⟨fun q => absurd q (nI_ge (by omega) (by omega)), fun _ => ⟨fun _ => ⟨ni_out (by omega) (by omega), ?_⟩, fun z => absurd z (by decide)⟩⟩
      unfold P_X9_sumOf_b37
      rw [cl (by omega), hl i (by omega), na, nI_1]
      exact ih (i + 1) (by omega)
  exact key F 0 (by omega)
def bcN (m : Nat) (F : Nat) : Nat := sumN (fun i => m / 2 ^ i % 2) F
theorem bit_n : ∀ m, m < 64 → ∀ i, i < 6 → (nI m >>> (nI i &&& 31)) &&& 1 = nI (m / 2 ^ i % 2) := by decide +kernel
theorem sumOf_0 {F m : Nat} {post : Int32 → Prop} (hF : F ≤ 6) (hm : m < 64) (hl : slot 33 = nI m) (h : post (nI (bcN m F))) : P_X9_sumOf 0 (nI F) slot post := by
  unfold P_X9_sumOf
  refine ⟨F + 1, ?_⟩
  have key : ∀ k i, i + k = F → P_X9_sumOf_L4 (nI F) slot post (k + 1) 0 (nI (bcN m i)) (nI i) := by
    intro k
    induction k with
    | zero =>
      intro i hi
      rw [P_X9_sumOf_L4]
      have e : i = F := by omega
      subst e
      exact ⟨fun _ => h, fun q => absurd (nI_le (Nat.le_refl _) (by omega)) q⟩
    | succ k ih =>
      intro i hi
      rw [P_X9_sumOf_L4]
      refine ⟨fun q => absurd q (nI_ge (by omega) (by omega)), fun _ => ⟨fun z => absurd rfl z, fun _ => ⟨ni_out (n := 33) (by omega) (by omega), ?_⟩⟩⟩
      unfold P_X9_sumOf_b37
      rw [show (33 : Int32).toNatClampNeg = 33 from rfl, hl, bit_n m hm i (by omega), na, nI_1]
      exact ih (i + 1) (by omega)
  exact key F 0 (by omega)
def bc1 (x0 : Int32) : Int32 := (((x0 - (((x0.toUInt32 >>> ((1 : Int32).toUInt32 &&& Int32.toUInt32 31)).toInt32) &&& (1431655765 : Int32))) &&& (858993459 : Int32)) + ((((x0 - (((x0.toUInt32 >>> ((1 : Int32).toUInt32 &&& Int32.toUInt32 31)).toInt32) &&& (1431655765 : Int32))).toUInt32 >>> ((2 : Int32).toUInt32 &&& Int32.toUInt32 31)).toInt32) &&& (858993459 : Int32)))
def bc2 (v23 : Int32) : Int32 := (((v23 + ((v23.toUInt32 >>> ((4 : Int32).toUInt32 &&& Int32.toUInt32 31)).toInt32)) &&& (252645135 : Int32)) + ((((v23 + ((v23.toUInt32 >>> ((4 : Int32).toUInt32 &&& Int32.toUInt32 31)).toInt32)) &&& (252645135 : Int32)).toUInt32 >>> ((8 : Int32).toUInt32 &&& Int32.toUInt32 31)).toInt32))
def bc3 (v40 : Int32) : Int32 := ((v40 + ((v40.toUInt32 >>> ((16 : Int32).toUInt32 &&& Int32.toUInt32 31)).toInt32)) &&& (63 : Int32))
theorem bc_eq : ∀ F, F < 7 → ∀ m, m < 2 ^ F → bc3 (bc2 (bc1 (nI m))) = nI (bcN m F) := by decide +kernel
theorem bitCount_C {F m : Nat} {post : Int32 → Prop} (hF : F ≤ 6) (hm : m < 2 ^ F) (h : post (nI (bcN m F))) : P_J6_bitCount_0f7a4 (nI m) post := by
  rw [← bc_eq F (by omega) m hm] at h
  unfold P_J6_bitCount_0f7a4
  intro v hv w hw
  have e1 : v = bc1 (nI m) := hv
  have e2 : w = bc2 v := hw
  rw [← e1, ← e2] at h
  exact h
theorem toI_eq {x : Int32} {k : Nat} (hk : k < 2 ^ 31) (h : x.toInt = (k : Int)) : x = nI k := by
  apply Int32.toInt_inj.mp
  rw [h, nI_toInt hk]
theorem count_M {x : Int32} {post : Int32 → Prop} (h0 : x = 0 → post mf) (h1 : x = 1 → post mw) (h2 : x = 2 → post mt) (h3 : x = 3 → post (slot 34)) (h4 : x = 4 → P_X9_sumOf 0 mf slot post) (h5 : x = 5 → P_X9_sumOf 1 mf slot post) (h6 : x = 6 → post seens) (h7 : x = 7 → post acts) (h8 : x = 8 → post keeps) (h9 : x = 9 → post ml) (hx : ¬ x = 0 → ¬ x = 1 → ¬ x = 2 → ¬ x = 3 → ¬ x = 4 → ¬ x = 5 → ¬ x = 6 → ¬ x = 7 → ¬ x = 8 → ¬ x = 9 → post (-1)) : P_X9_count x mf mw mt acts keeps ml seens slot post :=
  ⟨fun a0 => ⟨fun a1 => ⟨fun a2 => ⟨fun a3 => ⟨fun a4 => ⟨fun a5 => ⟨fun a6 => ⟨fun a7 => ⟨fun a8 => ⟨fun a9 => hx a0 a1 a2 a3 a4 a5 a6 a7 a8 a9, h9⟩, h8⟩, h7⟩, h6⟩, h5⟩, h4⟩, fun q => ⟨ni_out (n := 34) (by omega) (by omega), h3 q⟩⟩, h2⟩, h1⟩, h0⟩
theorem q_count (h : RelX xl xt cf cw ct ck ch co ctw ctp nd ns nl np nsh us p8 ks p2 zs zw zp zd mf mw mt msort mh mfi mse mby moff slot acts keeps ml mtx seens sw sp st idl) (x : Int32) : P_X8_count x xl ks us zs cf cw ct nd ns nl (fun r => P_X9_count x mf mw mt acts keeps ml seens slot (fun r' => r = r')) := by
  obtain ⟨⟨n, hn, rfl, rfl, ht⟩, hI, F, W, T, kd, hr, A, B, tw, tp, hC, hN, ⟨u, hu, rfl, rfl, hk⟩, ⟨u2, hu2, rfl, rfl, hk2⟩, ⟨z, hz, rfl, rfl, hs⟩⟩ := h
  obtain ⟨hV, hF1, hW8, hT6, -, -, htw, ecf, emf, ect, emt, hKC, hKM, -, hrow⟩ := id hC
  obtain ⟨m, hm, em1, em2⟩ := RSt_m hN
  obtain ⟨S, hS, hSC, hSM⟩ := hN
  have hF := hV.1
  have ecw := hKC.1
  have emw := hKM.1
  subst ecf; subst emf; subst ect; subst emt
  rw [ecw, emw]
  unfold P_X8_count
  refine ⟨fun q => ?_, fun q => ?_, fun q => ?_, fun q => ?_, fun q => ?_, fun q => ?_, fun q => ?_, fun q => ?_, fun q => ?_, fun q => ?_, fun q => ?_⟩
  · refine count_M (fun e => ?_) (fun e => ?_) (fun e => ?_) (fun e => ?_) (fun e => ?_) (fun e => ?_) (fun e => ?_) (fun e => ?_) (fun e => ?_) (fun e => ?_) (fun _ _ _ _ _ _ _ _ _ _ => rfl)
    all_goals (subst e; exact absurd q (by decide))
  · have e := toI_eq (k := 0) (by omega) q
    subst e
    refine count_M (fun e => ?_) (fun e => ?_) (fun e => ?_) (fun e => ?_) (fun e => ?_) (fun e => ?_) (fun e => ?_) (fun e => ?_) (fun e => ?_) (fun e => ?_) (fun a _ _ _ _ _ _ _ _ _ => absurd rfl a)
    all_goals first | exact absurd e (by decide) | rfl
  · have e := toI_eq (k := 1) (by omega) q
    subst e
    refine count_M (fun e => ?_) (fun e => ?_) (fun e => ?_) (fun e => ?_) (fun e => ?_) (fun e => ?_) (fun e => ?_) (fun e => ?_) (fun e => ?_) (fun e => ?_) (fun _ a _ _ _ _ _ _ _ _ => absurd rfl a)
    all_goals first | exact absurd e (by decide) | rfl
  · have e := toI_eq (k := 2) (by omega) q
    subst e
    refine count_M (fun e => ?_) (fun e => ?_) (fun e => ?_) (fun e => ?_) (fun e => ?_) (fun e => ?_) (fun e => ?_) (fun e => ?_) (fun e => ?_) (fun e => ?_) (fun _ _ a _ _ _ _ _ _ _ => absurd rfl a)
    all_goals first | exact absurd e (by decide) | rfl
  · have e := toI_eq (k := 3) (by omega) q
    subst e
    refine count_M (fun e => ?_) (fun e => ?_) (fun e => ?_) (fun e => ?_) (fun e => ?_) (fun e => ?_) (fun e => ?_) (fun e => ?_) (fun e => ?_) (fun e => ?_) (fun _ _ _ a _ _ _ _ _ _ => absurd rfl a)
    all_goals first | exact absurd e (by decide) | exact hSC.1.trans (by have := hSM.1; rw [Nat.zero_add] at this; exact this.symm)
  · have e := toI_eq (k := 4) (by omega) q
    subst e
    rw [em1]
    refine bitCount_C hF hm ?_
    refine count_M (fun e => ?_) (fun e => ?_) (fun e => ?_) (fun e => ?_) (fun e => ?_) (fun e => ?_) (fun e => ?_) (fun e => ?_) (fun e => ?_) (fun e => ?_) (fun _ _ _ _ a _ _ _ _ _ => absurd rfl a)
    all_goals first | exact absurd e (by decide) | exact sumOf_0 hF (p2F hF hm) (by rw [Nat.zero_add] at em2; exact em2) rfl
  · have e := toI_eq (k := 5) (by omega) q
    subst e
    refine landOfAll_C hF hSC.2.2.1 ?_
    refine count_M (fun e => ?_) (fun e => ?_) (fun e => ?_) (fun e => ?_) (fun e => ?_) (fun e => ?_) (fun e => ?_) (fun e => ?_) (fun e => ?_) (fun e => ?_) (fun _ _ _ _ _ a _ _ _ _ => absurd rfl a)
    all_goals first | exact absurd e (by decide) | exact sumOf_1 hF (fun f hf => by have := hSM.2.2.1 f hf; rw [Nat.zero_add] at this; exact this) rfl
  · have e := toI_eq (k := 6) (by omega) q
    subst e
    refine count_M (fun e => ?_) (fun e => ?_) (fun e => ?_) (fun e => ?_) (fun e => ?_) (fun e => ?_) (fun e => ?_) (fun e => ?_) (fun e => ?_) (fun e => ?_) (fun _ _ _ _ _ _ a _ _ _ => absurd rfl a)
    all_goals first | exact absurd e (by decide) | rfl
  · have e := toI_eq (k := 7) (by omega) q
    subst e
    refine count_M (fun e => ?_) (fun e => ?_) (fun e => ?_) (fun e => ?_) (fun e => ?_) (fun e => ?_) (fun e => ?_) (fun e => ?_) (fun e => ?_) (fun e => ?_) (fun _ _ _ _ _ _ _ a _ _ => absurd rfl a)
    all_goals first | exact absurd e (by decide) | rfl
  · have e := toI_eq (k := 8) (by omega) q
    subst e
    refine count_M (fun e => ?_) (fun e => ?_) (fun e => ?_) (fun e => ?_) (fun e => ?_) (fun e => ?_) (fun e => ?_) (fun e => ?_) (fun e => ?_) (fun e => ?_) (fun _ _ _ _ _ _ _ _ a _ => absurd rfl a)
    all_goals first | exact absurd e (by decide) | rfl
  · have e := toI_eq (k := 9) (by omega) q
    subst e
    refine count_M (fun e => ?_) (fun e => ?_) (fun e => ?_) (fun e => ?_) (fun e => ?_) (fun e => ?_) (fun e => ?_) (fun e => ?_) (fun e => ?_) (fun e => ?_) (fun _ _ _ _ _ _ _ _ _ a => absurd rfl a)
    all_goals first | exact absurd e (by decide) | rfl
/-! a family's, a wall's -/
theorem family_M {x2 : Int32} {f : Nat} {F : Nat} {post : Int32 → Prop} (hF : F ≤ 6) (hf : f < F) (e : mf = nI F) (h0 : x2 = 0 → post (msort f)) (h1 : x2 = 1 → post (mh f)) (h2 : x2 = 2 → post (slot f)) (h3 : x2 = 3 → post ((slot 33 >>> (nI f &&& 31)) &&& 1)) (h4 : x2 = 4 → P_X9_many (nI f) mw mfi mse post) (h5 : x2 = 5 → P_X9_treesOf 0 (nI f) mt mby slot moff mfi mse post) (hx : ¬ InR x2 0 5 → post (-1)) : P_X9_family (nI f) x2 mf mw mt msort mh slot mfi mse mby moff post := by
  unfold P_X9_family
  refine famM_1 (by rw [e]; exact nI_InR (by omega) hf) ⟨fun z => absurd z (by decide), fun _ => ?_⟩
  rw [cl (by omega)]
  by_cases hi : InR x2 0 5
  · refine in_y hi (by decide +kernel) (by decide +kernel) ⟨fun _ => ⟨fun a0 => ⟨fun a1 => ⟨fun a2 => ⟨fun a3 => ⟨fun a4 => ?_, h4⟩, fun q => ⟨ni_out (n := 33) (by omega) (by omega), h3 q⟩⟩, fun q => ⟨ni_out (by omega) (by omega), h2 q⟩⟩, fun q => ⟨ni_out (by omega) (by omega), h1 q⟩⟩, fun q => ⟨ni_out (by omega) (by omega), h0 q⟩⟩, fun z => absurd z (by decide)⟩
    obtain ⟨k, hk1, hk2, e⟩ := InR_c (lo := 0) (hi := 5) (by omega) (by omega) hi
    have hk : k = 5 := by
      match k, hk2 with
      | 0, _ => exact absurd e a0
      | 1, _ => exact absurd e a1
      | 2, _ => exact absurd e a2
      | 3, _ => exact absurd e a3
      | 4, _ => exact absurd e a4
      | 5, _ => rfl
    subst hk
    exact h5 e
  · exact in_n hi (by decide +kernel) (by decide +kernel) ⟨fun z => absurd rfl z, fun _ => hx hi⟩
theorem nin_of {x : Int32} {hi : Nat} (hh : hi < 2 ^ 31) (h : x.toInt < 0 ∨ (hi : Int) < x.toInt) : ¬ InR x 0 (nI hi) := by
  rintro ⟨h1, h2⟩
  have h1 := Int32.le_iff_toInt_le.mp h1
  have h2 := Int32.le_iff_toInt_le.mp h2
  rw [nI_toInt hh] at h2
  rw [show (0 : Int32).toInt = 0 from rfl] at h1
  omega
theorem q_family (h : RelX xl xt cf cw ct ck ch co ctw ctp nd ns nl np nsh us p8 ks p2 zs zw zp zd mf mw mt msort mh mfi mse mby moff slot acts keeps ml mtx seens sw sp st idl) (x1 x2 : Int32) : P_X8_family x1 x2 cf cw ct ns ctw np ctp co nl ch ck (fun r => P_X9_family x1 x2 mf mw mt msort mh slot mfi mse mby moff (fun r' => r = r')) := by
  obtain ⟨hT, hI, F, W, T, kd, hr, A, B, tw, tp, hC, hN, hU, hK, hZ⟩ := h
  obtain ⟨hV, hF1, hW8, hT6, -, -, htw, ecf, emf, ect, emt, hKC, hKM, hhr, hrow⟩ := id hC
  obtain ⟨m, hm, em1, em2⟩ := RSt_m hN
  obtain ⟨S, hS, hSC, hSM⟩ := hN
  have hF := hV.1
  unfold P_X8_family
  by_cases h1 : InR x1 0 (nI F - 1)
  · refine famC_1 (by rw [ecf]; exact h1) ⟨fun _ => ?_, fun z => absurd z (by decide)⟩
    obtain ⟨f, hf, rfl⟩ := InR_n (by omega) h1
    rw [cl (by omega)]
    rw [Nat.zero_add] at em2
    have e5 : ∀ k, k ≤ 5 → InR (nI k) 0 5 := fun k hk => ⟨nI_pos' (by omega), nI_le (b := 5) hk (by omega)⟩
    refine ⟨fun q => ?_, fun q => ⟨ni_out (by omega) (by omega), ?_⟩, fun q => ⟨ni_out (by omega) (by omega), ?_⟩, fun q => ⟨ni_out (by omega) (by omega), ?_⟩, fun q => ?_, fun q => ?_, fun q => ?_⟩
    · refine family_M hF hf emf (fun e => ?_) (fun e => ?_) (fun e => ?_) (fun e => ?_) (fun e => ?_) (fun e => ?_) (fun _ => rfl)
      all_goals (subst e; exact absurd q (by decide))
    · have e := toI_eq (k := 0) (by omega) q
      subst e
      refine family_M hF hf emf (fun e => ?_) (fun e => ?_) (fun e => ?_) (fun e => ?_) (fun e => ?_) (fun e => ?_) (fun n => absurd (e5 0 (by omega)) n)
      all_goals first | exact absurd e (by decide) | exact (hKC.2.2 f hf).trans (hKM.2.2 f hf).symm
    · have e := toI_eq (k := 1) (by omega) q
      subst e
      refine family_M hF hf emf (fun e => ?_) (fun e => ?_) (fun e => ?_) (fun e => ?_) (fun e => ?_) (fun e => ?_) (fun n => absurd (e5 1 (by omega)) n)
      all_goals first | exact absurd e (by decide) | exact (hhr f hf).1.trans (hhr f hf).2.symm
    · have e := toI_eq (k := 2) (by omega) q
      subst e
      refine family_M hF hf emf (fun e => ?_) (fun e => ?_) (fun e => ?_) (fun e => ?_) (fun e => ?_) (fun e => ?_) (fun n => absurd (e5 2 (by omega)) n)
      all_goals first | exact absurd e (by decide) | exact (hSC.2.2.1 f hf).trans (by have := hSM.2.2.1 f hf; rw [Nat.zero_add] at this; exact this.symm)
    · have e := toI_eq (k := 3) (by omega) q
      subst e
      have hb := bit_eq m (p2F hF hm) f (by omega)
      unfold P_X6_isSick
      rw [em1]
      refine ⟨fun q2 => ⟨fun _ => ?_, fun z => absurd rfl z⟩, fun q2 => ⟨fun z => absurd z (by decide), fun _ => ?_⟩⟩
      · refine family_M hF hf emf (fun e => ?_) (fun e => ?_) (fun e => ?_) (fun e => ?_) (fun e => ?_) (fun e => ?_) (fun n => absurd (e5 3 (by omega)) n)
        all_goals first | exact absurd e (by decide) | (rw [em2]; exact hb.elim (fun z => z.symm) (fun z => absurd z q2))
      · refine family_M hF hf emf (fun e => ?_) (fun e => ?_) (fun e => ?_) (fun e => ?_) (fun e => ?_) (fun e => ?_) (fun n => absurd (e5 3 (by omega)) n)
        all_goals first | exact absurd e (by decide) | (rw [em2]; exact q2.symm)
    · have e := toI_eq (k := 4) (by omega) q
      subst e
      refine wallsOf_C hV.ow hKC.ow hf ?_
      refine family_M hF hf emf (fun e => ?_) (fun e => ?_) (fun e => ?_) (fun e => ?_) (fun e => ?_) (fun e => ?_) (fun n => absurd (e5 4 (by omega)) n)
      all_goals first | exact absurd e (by decide) | exact many_M hV.ow hKM.ow hf rfl
    · have e := toI_eq (k := 5) (by omega) q
      subst e
      rw [ect, emt]
      refine treesOf_C hV.ow hKC.ow hf hT6 htw (fun t ht => ⟨(hrow t ht).1, (hrow t ht).2.2.1⟩) (fun w hw => (hSC.2.2.2 w hw).1) ?_
      refine family_M hF hf emf (fun e => ?_) (fun e => ?_) (fun e => ?_) (fun e => ?_) (fun e => ?_) (fun e => ?_) (fun n => absurd (e5 5 (by omega)) n)
      all_goals first | exact absurd e (by decide) | exact treesOf_M hV.ow hKM.ow hf hT6 htw (fun t ht => ⟨(hrow t ht).2.1, (hrow t ht).2.2.2⟩) hSM rfl
  · refine famC_0 (by rw [ecf]; exact h1) ⟨fun z => absurd rfl z, fun _ => ?_⟩
    unfold P_X9_family
    exact famM_0 (by rw [emf]; exact h1) ⟨fun _ => rfl, fun z => absurd rfl z⟩
end
