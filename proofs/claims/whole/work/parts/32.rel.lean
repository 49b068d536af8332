/-! what the class's and the reference's contents have to do with each other -/
def InR (x lo hi : Int32) : Prop := lo ≤ x ∧ x ≤ hi
theorem within_1 {x lo hi : Int32} {post : Int32 → Prop} (h : InR x lo hi) (hp : post 1) : P_X8_within x lo hi post := ⟨fun q => absurd q (Int32.not_lt.mpr h.1), fun _ => ⟨fun q => absurd q (Int32.not_lt.mpr h.2), fun _ => hp⟩⟩
theorem within_0 {x lo hi : Int32} {post : Int32 → Prop} (h : ¬ InR x lo hi) (hp : post 0) : P_X8_within x lo hi post := ⟨fun _ => hp, fun q => ⟨fun _ => hp, fun r => absurd ⟨Int32.not_lt.mp q, Int32.not_lt.mp r⟩ h⟩⟩
theorem lgc_lt0 (x y : Int32) : lg_cmp x.toInt64 y.toInt64 < 0 ↔ x < y := by
  have h := lg_cmp_ge x.toInt64 y.toInt64
  rw [Int64.le_iff_toInt_le, Int32.toInt_toInt64, Int32.toInt_toInt64, ← Int32.le_iff_toInt_le] at h
  rw [← Int32.not_le, ← Int32.not_le, h]
theorem lgc_gt0 (x y : Int32) : 0 < lg_cmp x.toInt64 y.toInt64 ↔ y < x := by
  have h := lg_cmp_le x.toInt64 y.toInt64
  rw [Int64.le_iff_toInt_le, Int32.toInt_toInt64, Int32.toInt_toInt64, ← Int32.le_iff_toInt_le] at h
  rw [← Int32.not_le, ← Int32.not_le, h]
theorem in_1 {x lo hi : Int32} {post : Int32 → Prop} (h : InR x lo hi) (hp : post 1) : P_X9_in x.toInt64 lo.toInt64 hi.toInt64 post := by
  unfold P_X9_in
  rw [lgc_lt0, lgc_gt0]
  exact ⟨fun q => absurd q (Int32.not_lt.mpr h.1), fun _ => ⟨fun q => absurd q (Int32.not_lt.mpr h.2), fun _ => hp⟩⟩
theorem in_0 {x lo hi : Int32} {post : Int32 → Prop} (h : ¬ InR x lo hi) (hp : post 0) : P_X9_in x.toInt64 lo.toInt64 hi.toInt64 post := by
  unfold P_X9_in
  rw [lgc_lt0, lgc_gt0]
  exact ⟨fun _ => hp, fun q => ⟨fun _ => hp, fun r => absurd ⟨Int32.not_lt.mp q, Int32.not_lt.mp r⟩ h⟩⟩
theorem m1_toInt {N : Nat} (hN : N < 2 ^ 30) : (nI N - 1).toInt = (N : Int) - 1 := by
  have := pk_sub_toInt (a := N) (b := 1) hN (by omega)
  exact this
theorem InR_n {x : Int32} {N : Nat} (hN : N < 2 ^ 30) (h : InR x 0 (nI N - 1)) : ∃ k, k < N ∧ x = nI k := by
  obtain ⟨j, hj, rfl⟩ := nI_of (x := x) (Int32.not_lt.mpr h.1)
  refine ⟨j, ?_, rfl⟩
  have := Int32.le_iff_toInt_le.mp h.2
  rw [m1_toInt hN, nI_toInt (by omega)] at this
  omega
theorem InR_c {x : Int32} {lo hi : Nat} (hh : hi < 2 ^ 31) (hl : lo ≤ hi) (h : InR x (nI lo) (nI hi)) : ∃ k, lo ≤ k ∧ k ≤ hi ∧ x = nI k := by
  have h1 := Int32.le_iff_toInt_le.mp h.1
  have h3 := Int32.le_iff_toInt_le.mp h.2
  rw [nI_toInt hh] at h3
  rw [nI_toInt (by omega)] at h1
  have h0 : ¬ x < 0 := fun z => by
    have h2 := Int32.lt_iff_toInt_lt.mp z
    rw [show (0 : Int32).toInt = 0 from rfl] at h2
    omega
  obtain ⟨j, hj, rfl⟩ := nI_of h0
  rw [nI_toInt hj] at h1 h3
  exact ⟨j, by omega, by omega, rfl⟩
theorem nI_InR {k N : Nat} (hN : N < 2 ^ 30) (h : k < N) : InR (nI k) 0 (nI N - 1) := by
  refine ⟨nI_pos' (by omega), Int32.le_iff_toInt_le.mpr ?_⟩
  rw [m1_toInt hN, nI_toInt (by omega)]; omega
def RText (xl : Int32) (xt : Nat → Int32) (ml : Int32) (mtx : Nat → Int32) : Prop := ∃ n, n ≤ 200 ∧ xl = nI n ∧ ml = nI n ∧ ∀ i, i < n → ∃ c, 32 ≤ c ∧ c ≤ 126 ∧ xt i = nI c ∧ mtx i = nI c
def RCo (F W T : Nat) (kd hr A B tw : Nat → Nat) (tp : Nat → Int32) (cf cw ct : Int32) (ck ch co ctw ctp : Nat → Int32) (mf mw mt : Int32) (msort mh mfi mse mby moff : Nat → Int32) : Prop :=
  CoV F W kd A B ∧ 1 ≤ F ∧ W ≤ 8 ∧ T ≤ 6 ∧ (∀ f, f < F → hr f ≤ 12) ∧ (∀ f, f < F → cnt A B f W ≤ 4) ∧ (∀ t, t < T → tw t < W) ∧ cf = nI F ∧ mf = nI F ∧ ct = nI T ∧ mt = nI T ∧ CoC F W kd A B cw co ck ∧ CoM F W kd A B mw mfi mse msort ∧
  (∀ f, f < F → ch f = nI (hr f) ∧ mh f = nI (hr f)) ∧ ∀ t, t < T → ctw t = nI (tw t) ∧ mby t = nI (tw t) ∧ ctp t = tp t ∧ moff t = tp t
def StV (F W : Nat) (S : St) : Prop := LdV F S ∧ (∀ w, W ≤ w → w < 9 → S.2.2.2.1 w = 0 ∧ S.2.2.2.2.1 w = 0 ∧ S.2.2.2.2.2 w = 0) ∧ (∀ w, w < W → (∃ a, a ≤ 12 ∧ S.2.2.2.2.1 w = nI a) ∧ ∃ a, a ≤ 12 ∧ S.2.2.2.2.2 w = nI a) ∧ ∃ m, m < 2 ^ F ∧ S.2.1 = nI m
/-- a stand of the class and its place in the reference's row say the same -/
def RSt (F W : Nat) (d s : Int32) (l p sh slot : Nat → Int32) (b : Nat) : Prop := ∃ S : St, StV F W S ∧ StC F S d s l p sh ∧ StM F b S slot
abbrev SVt : Type := Int32 × Int32 × (Nat → Int32) × (Nat → Int32) × (Nat → Int32)
abbrev RSv (F W : Nat) (v : SVt) (slot : Nat → Int32) (b : Nat) : Prop := RSt F W v.1 v.2.1 v.2.2.1 v.2.2.2.1 v.2.2.2.2 slot b
def RUn (F W : Nat) (us : Int32) (p8 : Nat → SVt) (acts : Int32) (slot : Nat → Int32) : Prop := ∃ u, u ≤ 8 ∧ us = nI u ∧ acts = nI u ∧ ∀ k, k < u → RSv F W (p8 k) slot (35 * (k + 1))
def RKe (F W : Nat) (ks : Int32) (p2 : Nat → SVt) (keeps : Int32) (slot : Nat → Int32) : Prop := ∃ u, u ≤ 2 ∧ ks = nI u ∧ keeps = nI u ∧ ∀ k, k < u → RSv F W (p2 k) slot (35 * (9 + k))
def RSe (W : Nat) (zs : Int32) (zw zp zd : Nat → Int32) (seens : Int32) (sw sp st : Nat → Int32) : Prop := ∃ z, z ≤ 6 ∧ zs = nI z ∧ seens = nI z ∧ ∀ i, i < z → (∃ w, w < W ∧ zw i = nI w ∧ sw i = nI w) ∧ zp i = sp i ∧ ∃ t, 1 ≤ t ∧ t ≤ 30 ∧ zd i = nI t ∧ st i = nI t
def RelX (xl : Int32) (xt : Nat → Int32) (cf cw ct : Int32) (ck ch co ctw ctp : Nat → Int32) (nd ns : Int32) (nl np nsh : Nat → Int32) (us : Int32) (p8 : Nat → SVt) (ks : Int32) (p2 : Nat → SVt) (zs : Int32) (zw zp zd : Nat → Int32)
    (mf mw mt : Int32) (msort mh mfi mse mby moff slot : Nat → Int32) (acts keeps ml : Int32) (mtx : Nat → Int32) (seens : Int32) (sw sp st : Nat → Int32) (idl : Int32) : Prop :=
  RText xl xt ml mtx ∧ idl = 0 ∧ ∃ (F W T : Nat) (kd hr A B tw : Nat → Nat) (tp : Nat → Int32), RCo F W T kd hr A B tw tp cf cw ct ck ch co ctw ctp mf mw mt msort mh mfi mse mby moff ∧ RSt F W nd ns nl np nsh slot 0 ∧ RUn F W us p8 acts slot ∧ RKe F W ks p2 keeps slot ∧ RSe W zs zw zp zd seens sw sp st
theorem StM_row {F b : Nat} (hF : F ≤ 6) {S : St} {slot slot' : Nat → Int32} (h : StM F b S slot) (e : ∀ k, k < 35 → slot' (b + k) = slot (b + k)) : StM F b S slot' := StM_at hF h e
theorem RSt_row {F W b : Nat} {d s : Int32} {l p sh slot slot' : Nat → Int32} (hF : F ≤ 6) (h : RSt F W d s l p sh slot b) (e : ∀ k, k < 35 → slot' (b + k) = slot (b + k)) : RSt F W d s l p sh slot' b := by
  obtain ⟨S, h1, h2, h3⟩ := h
  exact ⟨S, h1, h2, StM_row hF h3 e⟩
theorem RUn_row {F W : Nat} {us acts : Int32} {p8 : Nat → SVt} {slot slot' : Nat → Int32} (hF : F ≤ 6) (h : RUn F W us p8 acts slot) (e : ∀ j, 35 ≤ j → j < 315 → slot' j = slot j) : RUn F W us p8 acts slot' := by
  obtain ⟨u, h0, h1, h2, h3⟩ := h
  exact ⟨u, h0, h1, h2, fun k hk => RSt_row hF (h3 k hk) (fun j hj => e _ (by omega) (by omega))⟩
theorem RKe_row {F W : Nat} {ks keeps : Int32} {p2 : Nat → SVt} {slot slot' : Nat → Int32} (hF : F ≤ 6) (h : RKe F W ks p2 keeps slot) (e : ∀ j, 315 ≤ j → j < 385 → slot' j = slot j) : RKe F W ks p2 keeps slot' := by
  obtain ⟨u, h0, h1, h2, h3⟩ := h
  exact ⟨u, h0, h1, h2, fun k hk => RSt_row hF (h3 k hk) (fun j hj => e _ (by omega) (by omega))⟩
/-- what is tried changes nothing -/
theorem RelX_slot {xl : Int32} {xt : Nat → Int32} {cf cw ct : Int32} {ck ch co ctw ctp : Nat → Int32} {nd ns : Int32} {nl np nsh : Nat → Int32} {us : Int32} {p8 : Nat → SVt} {ks : Int32} {p2 : Nat → SVt} {zs : Int32} {zw zp zd : Nat → Int32}
    {mf mw mt : Int32} {msort mh mfi mse mby moff slot slot' : Nat → Int32} {acts keeps ml : Int32} {mtx : Nat → Int32} {seens : Int32} {sw sp st : Nat → Int32} {idl : Int32} (h : RelX xl xt cf cw ct ck ch co ctw ctp nd ns nl np nsh us p8 ks p2 zs zw zp zd mf mw mt msort mh mfi mse mby moff slot acts keeps ml mtx seens sw sp st idl) (e : ∀ j, j < 385 → slot' j = slot j) :
    RelX xl xt cf cw ct ck ch co ctw ctp nd ns nl np nsh us p8 ks p2 zs zw zp zd mf mw mt msort mh mfi mse mby moff slot' acts keeps ml mtx seens sw sp st idl := by
  obtain ⟨h1, h2, F, W, T, kd, hr, A, B, tw, tp, h3, h4, h5, h6, h7⟩ := h
  have hF := h3.1.1
  exact ⟨h1, h2, F, W, T, kd, hr, A, B, tw, tp, h3, RSt_row hF h4 (fun k hk => e _ (by omega)), RUn_row hF h5 (fun j _ hj => e j (by omega)), RKe_row hF h6 (fun j _ hj => e j (by omega)), h7⟩
