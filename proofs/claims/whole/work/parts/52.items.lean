section
variable {xl : Int32} {xt : Nat → Int32} {cf cw ct : Int32} {ck ch co ctw ctp : Nat → Int32} {nd ns : Int32} {nl np nsh : Nat → Int32} {us : Int32} {p8 : Nat → SVt} {ks : Int32} {p2 : Nat → SVt} {zs : Int32} {zw zp zd : Nat → Int32}
variable {mf mw mt : Int32} {msort mh mfi mse mby moff slot : Nat → Int32} {acts keeps ml : Int32} {mtx : Nat → Int32} {seens : Int32} {sw sp st : Nat → Int32} {idl : Int32}
/-! a county as it is told -/
abbrev Cty : Type := Nat × Nat × Nat × (Nat → Nat) × (Nat → Nat) × (Nat → Nat) × (Nat → Nat) × (Nat → Nat) × (Nat → Nat) × (Nat → Int32)
def famP (c : Cty) (v0 v1 v2 : Nat) : Option Cty := match c with
  | (F, W, T, kd, hr, ld, A, B, tw, tp) => if F < 6 ∧ v0 ≤ 4 ∧ v1 ≤ 12 then some (F + 1, W, T, va_up kd F v0, va_up hr F v1, va_up ld F v2, A, B, tw, tp) else none
def walP (c : Cty) (v0 v1 : Nat) : Option Cty := match c with
  | (F, W, T, kd, hr, ld, A, B, tw, tp) => if W < 8 ∧ v0 < F ∧ v1 < F ∧ v0 ≠ v1 ∧ cnt A B v0 W < 4 ∧ cnt A B v1 W < 4 then some (F, W + 1, T, kd, hr, ld, va_up A W v0, va_up B W v1, tw, tp) else none
def treP (c : Cty) (v0 v1 : Nat) : Option Cty := match c with
  | (F, W, T, kd, hr, ld, A, B, tw, tp) => if T < 6 ∧ v0 < W ∧ v1 ≤ 40 then some (F, W, T + 1, kd, hr, ld, A, B, va_up tw T v0, va_up tp T (nI v1 - 20)) else none
def itemP (n : Nat) (tx : Nat → Nat) (c : Cty) (i : Nat) : Option (Cty × Nat) :=
  if isC n tx 102 i then (match num3P n tx (i + 1) with
    | none => none
    | some (v0, v1, v2, j) => match famP c v0 v1 v2 with
      | none => none
      | some c' => some (c', j))
  else if isC n tx 119 i then (match num2P n tx (i + 1) with
    | none => none
    | some (v0, v1, j) => match walP c v0 v1 with
      | none => none
      | some c' => some (c', j))
  else if isC n tx 116 i then (match num2P n tx (i + 1) with
    | none => none
    | some (v0, v1, j) => match treP c v0 v1 with
      | none => none
      | some c' => some (c', j))
  else none
def CtyV (c : Cty) : Prop := match c with
  | (F, W, T, kd, hr, ld, A, B, tw, _) => F ≤ 6 ∧ W ≤ 8 ∧ T ≤ 6 ∧ (∀ w, w < W → A w < F ∧ B w < F ∧ A w ≠ B w) ∧ (∀ f, f < F → kd f < 5 ∧ hr f ≤ 12 ∧ ld f ≤ 99 ∧ cnt A B f W ≤ 4) ∧ ∀ t, t < T → tw t < W
def CtC (c : Cty) (fa wa tr : Int32) (tW tP ow ki ho la : Nat → Int32) : Prop := match c with
  | (F, W, T, kd, hr, ld, A, B, tw, tp) => fa = nI F ∧ wa = nI W ∧ tr = nI T ∧ (∀ w, w < W → ow (2 * w) = nI (A w) ∧ ow (2 * w + 1) = nI (B w)) ∧ (∀ f, f < F → ki f = nI (kd f) ∧ ho f = nI (hr f) ∧ la f = nI (ld f)) ∧ ∀ t, t < T → tW t = nI (tw t) ∧ tP t = tp t
theorem cnt_up2 {A B : Nat → Nat} {W a b x : Nat} : ∀ w, w ≤ W → cnt (va_up A W a) (va_up B W b) x w = cnt A B x w := by
  intro w
  induction w with
  | zero => intro _; rfl
  | succ w ih =>
    intro hw
    have e1 : va_up A W a w = A w := by simp [va_up]; omega
    have e2 : va_up B W b w = B w := by simp [va_up]; omega
    rw [cnt, cnt, ih (by omega), e1, e2]
theorem cnt_no {A B : Nat → Nat} {f : Nat} : ∀ w, (∀ v, v < w → A v ≠ f ∧ B v ≠ f) → cnt A B f w = 0 := by
  intro w
  induction w with
  | zero => intro _; rfl
  | succ w ih =>
    intro h
    have := h w (by omega)
    rw [cnt, ih (fun v hv => h v (by omega)), if_neg (by omega)]
theorem famP_V {c c' : Cty} {v0 v1 v2 : Nat} (h : CtyV c) (h2 : v2 ≤ 99) (e : famP c v0 v1 v2 = some c') : CtyV c' := by
  obtain ⟨F, W, T, kd, hr, ld, A, B, tw, tp⟩ := c
  unfold famP at e
  dsimp only at e
  split at e
  · next q =>
    cases e
    obtain ⟨g1, g2, g3, g4, g5, g6⟩ := h
    refine ⟨by omega, g2, g3, fun w hw => by have := g4 w hw; omega, fun f hf => ?_, g6⟩
    simp only [va_up]
    by_cases ef : f = F
    · subst ef
      rw [if_pos rfl, if_pos rfl, if_pos rfl, cnt_no W (fun v hv => by have := g4 v hv; omega)]
      omega
    · rw [if_neg ef, if_neg ef, if_neg ef]; exact g5 f (by omega)
  · cases e
theorem walP_V {c c' : Cty} {v0 v1 : Nat} (h : CtyV c) (e : walP c v0 v1 = some c') : CtyV c' := by
  obtain ⟨F, W, T, kd, hr, ld, A, B, tw, tp⟩ := c
  unfold walP at e
  dsimp only at e
  split at e
  · next q =>
    cases e
    obtain ⟨g1, g2, g3, g4, g5, g6⟩ := h
    refine ⟨g1, by omega, g3, fun w hw => ?_, fun f hf => ?_, fun t ht => by have := g6 t ht; omega⟩
    · simp only [va_up]
      by_cases ew : w = W
      · rw [if_pos ew, if_pos ew]; omega
      · rw [if_neg ew, if_neg ew]; exact g4 w (by omega)
    · obtain ⟨k1, k2, k3, k4⟩ := g5 f hf
      refine ⟨k1, k2, k3, ?_⟩
      have e1 : va_up A W v0 W = v0 := by simp [va_up]
      have e2 : va_up B W v1 W = v1 := by simp [va_up]
      rw [cnt, cnt_up2 W (Nat.le_refl _), e1, e2]
      split
      · next hx =>
        rcases hx with hx | hx
        · rw [← hx]; omega
        · rw [← hx]; omega
      · omega
  · cases e
theorem treP_V {c c' : Cty} {v0 v1 : Nat} (h : CtyV c) (e : treP c v0 v1 = some c') : CtyV c' := by
  obtain ⟨F, W, T, kd, hr, ld, A, B, tw, tp⟩ := c
  unfold treP at e
  dsimp only at e
  split at e
  · next q =>
    cases e
    obtain ⟨g1, g2, g3, g4, g5, g6⟩ := h
    refine ⟨g1, g2, by omega, g4, g5, fun t ht => ?_⟩
    simp only [va_up]
    by_cases et : t = T
    · rw [if_pos et]; omega
    · rw [if_neg et]; exact g6 t (by omega)
  · cases e
theorem addFamily_C {c : Cty} {v0 v1 v2 : Nat} {fa wa tr : Int32} {tW tP ow ki ho la : Nat → Int32} {post : Int32 → Int32 → (Nat → Int32) → (Nat → Int32) → (Nat → Int32) → Prop} (h : CtyV c) (hc : CtC c fa wa tr tW tP ow ki ho la) (hv0 : v0 ≤ 99) (hv1 : v1 ≤ 99) (hv2 : v2 ≤ 99)
    (h1 : ∀ c', famP c v0 v1 v2 = some c' → ∀ fa' ki' ho' la', CtC c' fa' wa tr tW tP ow ki' ho' la' → post 1 fa' ki' ho' la') (h0 : famP c v0 v1 v2 = none → ∀ fa' ki' ho' la', post 0 fa' ki' ho' la') : P_X1_addFamily (nI v0) (nI v1) (nI v2) fa ki ho la post := by
  obtain ⟨F, W, T, kd, hr, ld, A, B, tw, tp⟩ := c
  obtain ⟨g1, g2, g3, g4, g5, g6⟩ := h
  obtain ⟨rfl, c2, c3, c4, c5, c6⟩ := hc
  unfold famP at h1 h0
  dsimp only at h1 h0
  have no : ¬ (F < 6 ∧ v0 ≤ 4 ∧ v1 ≤ 12) → ∀ fa' ki' ho' la', post 0 fa' ki' ho' la' := fun q => h0 (if_neg q)
  unfold P_X1_addFamily
  refine ⟨fun q => no (fun z => absurd q (nI_ge (a := F) (b := 6) z.1 (by omega))) _ _ _ _, fun q => ?_⟩
  have hF : F < 6 := by
    by_cases z : F < 6
    · exact z
    · exact absurd (nI_le (a := 6) (by omega) (by omega)) q
  by_cases q0 : v0 ≤ 4
  · refine within_1 ⟨nI_pos' (by omega), nI_le (b := 4) q0 (by omega)⟩ ⟨fun z => absurd z (by decide), fun _ => ?_⟩
    by_cases q1 : v1 ≤ 12
    · refine within_1 ⟨nI_pos' (by omega), nI_le (b := 12) q1 (by omega)⟩ ⟨fun z => absurd z (by decide), fun _ => ?_⟩
      refine within_1 ⟨nI_pos' (by omega), nI_le (b := 99) hv2 (by omega)⟩ ⟨fun _ => ⟨ni_out (by omega) (by omega), ni_out (by omega) (by omega), ni_out (by omega) (by omega), ?_⟩, fun z => absurd z (by decide)⟩
      rw [cl (by omega), nI_1]
      refine h1 _ (if_pos ⟨hF, q0, q1⟩) _ _ _ _ ⟨rfl, c2, c3, c4, fun f hf => ?_, c6⟩
      simp only [va_up]
      by_cases ef : f = F
      · subst ef; rw [pk_us, pk_us, pk_us, if_pos rfl, if_pos rfl, if_pos rfl]; exact ⟨rfl, rfl, rfl⟩
      · rw [pk_un ef, pk_un ef, pk_un ef, if_neg ef, if_neg ef, if_neg ef]; exact c5 f (by omega)
    · refine within_0 (fun z => q1 ((nI_leI (a := v1) (b := 12) (by omega) (by omega)).mp z.2)) ⟨fun _ => no (fun z => q1 z.2.2) _ _ _ _, fun z => absurd rfl z⟩
  · refine within_0 (fun z => q0 ((nI_leI (a := v0) (b := 4) (by omega) (by omega)).mp z.2)) ⟨fun _ => no (fun z => q0 z.2.1) _ _ _ _, fun z => absurd rfl z⟩
theorem vInR {v N : Nat} (hv : v ≤ 99) (hN : N ≤ 9) : InR (nI v) 0 (nI N - 1) ↔ v < N := by
  refine ⟨fun h => ?_, fun h => nI_InR (by omega) h⟩
  obtain ⟨k, hk, e⟩ := InR_n (by omega) h
  have := (nI_eq (by omega) (by omega)).mp e
  omega
theorem canHave_C {F W v : Nat} {A B : Nat → Nat} {fa wa : Int32} {ow : Nat → Int32} {post : Int32 → Prop} (hV : OwV F W A B) (hO : OwC W A B wa ow) (hf : fa = nI F) (hv : v ≤ 99) (h1 : v < F → cnt A B v W < 4 → post 1) (h0 : ¬ (v < F ∧ cnt A B v W < 4) → post 0) : P_X1_canHaveWall (nI v) fa wa ow post := by
  have hF := hV.1
  have hW := hV.2.1
  have hcl := cnt_le A B v W
  unfold P_X1_canHaveWall
  rw [hf]
  by_cases q : v < F
  · refine within_1 ((vInR hv (by omega)).mpr q) ⟨fun z => absurd z (by decide), fun _ => ?_⟩
    refine wallsOf_C hV hO q ?_
    rw [show (4 : Int32) = nI 4 from rfl, nI_leI (by omega) (by omega)]
    exact ⟨fun r => h0 (fun z => by omega), fun r => h1 q (by omega)⟩
  · exact within_0 (fun z => q ((vInR hv (by omega)).mp z)) ⟨fun _ => h0 (fun z => q z.1), fun z => absurd rfl z⟩
theorem addWall_C {c : Cty} {v0 v1 : Nat} {fa wa tr : Int32} {tW tP ow ki ho la : Nat → Int32} {post : Int32 → Int32 → (Nat → Int32) → Prop} (h : CtyV c) (hc : CtC c fa wa tr tW tP ow ki ho la) (hv0 : v0 ≤ 99) (hv1 : v1 ≤ 99)
    (h1 : ∀ c', walP c v0 v1 = some c' → ∀ wa' ow', CtC c' fa wa' tr tW tP ow' ki ho la → post 1 wa' ow') (h0 : walP c v0 v1 = none → ∀ wa' ow', post 0 wa' ow') : P_X1_addWall (nI v0) (nI v1) fa wa ow post := by
  obtain ⟨F, W, T, kd, hr, ld, A, B, tw, tp⟩ := c
  obtain ⟨g1, g2, g3, g4, g5, g6⟩ := h
  obtain ⟨c1, c2, c3, c4, c5, c6⟩ := hc
  unfold walP at h1 h0
  dsimp only at h1 h0
  have hV : OwV F W A B := ⟨g1, by omega, g4⟩
  have hO : OwC W A B wa ow := ⟨c2, c4⟩
  have no : ¬ (W < 8 ∧ v0 < F ∧ v1 < F ∧ v0 ≠ v1 ∧ cnt A B v0 W < 4 ∧ cnt A B v1 W < 4) → ∀ wa' ow', post 0 wa' ow' := fun q => h0 (if_neg q)
  unfold P_X1_addWall
  rw [nI_eq (by omega) (by omega)]
  refine ⟨fun q => ?_, fun q => ⟨fun r => no (fun z => z.2.2.2.1 r) _ _, fun r => ?_⟩⟩
  · rw [c2] at q
    exact no (fun z => absurd q (nI_ge (a := W) (b := 8) z.1 (by omega))) _ _
  · have hW : W < 8 := by
      by_cases z : W < 8
      · exact z
      · exact absurd (by rw [c2]; exact nI_le (a := 8) (by omega) (by omega)) q
    refine canHave_C hV hO c1 hv0 (fun a1 a2 => ⟨fun z => absurd z (by decide), fun _ => ?_⟩) (fun a => ⟨fun _ => no (fun z => a ⟨z.2.1, z.2.2.2.2.1⟩) _ _, fun z => absurd rfl z⟩)
    refine canHave_C hV hO c1 hv1 (fun b1 b2 => ⟨fun _ => ?_, fun z => absurd z (by decide)⟩) (fun a => ⟨fun z => absurd rfl z, fun _ => no (fun z => a ⟨z.2.2.1, z.2.2.2.2.2⟩) _ _⟩)
    unfold P_X1_putWall
    rw [c2, ni2s, ni2, nI_1, cl (by omega), cl (by omega)]
    refine ⟨fun _ => ⟨ni_out (by omega) (by omega), ni_out (by omega) (by omega), ?_⟩, fun z => absurd (nI_le (b := 8) (by omega) (by omega)) z⟩
    refine h1 _ (if_pos ⟨hW, a1, b1, r, a2, b2⟩) _ _ ⟨c1, rfl, c3, fun w hw => ?_, c5, c6⟩
    simp only [va_up]
    by_cases ew : w = W
    · subst ew; rw [pk_un (by omega), pk_us, pk_us, if_pos rfl, if_pos rfl]; exact ⟨rfl, rfl⟩
    · rw [pk_un (by omega), pk_un (by omega), pk_un (by omega), pk_un (by omega), if_neg ew, if_neg ew]; exact c4 w (by omega)
theorem addTree_C {c : Cty} {v0 v1 : Nat} {fa wa tr : Int32} {tW tP ow ki ho la : Nat → Int32} {post : Int32 → Int32 → (Nat → Int32) → (Nat → Int32) → Prop} (h : CtyV c) (hc : CtC c fa wa tr tW tP ow ki ho la) (hv0 : v0 ≤ 99) (hv1 : v1 ≤ 99)
    (h1 : ∀ c', treP c v0 v1 = some c' → ∀ tr' tW' tP', CtC c' fa wa tr' tW' tP' ow ki ho la → post 1 tr' tW' tP') (h0 : treP c v0 v1 = none → ∀ tr' tW' tP', post 0 tr' tW' tP') : P_X1_addTree (nI v0) (nI v1) wa tr tW tP post := by
  obtain ⟨F, W, T, kd, hr, ld, A, B, tw, tp⟩ := c
  obtain ⟨g1, g2, g3, g4, g5, g6⟩ := h
  obtain ⟨c1, c2, rfl, c4, c5, c6⟩ := hc
  unfold treP at h1 h0
  dsimp only at h1 h0
  have no : ¬ (T < 6 ∧ v0 < W ∧ v1 ≤ 40) → ∀ tr' tW' tP', post 0 tr' tW' tP' := fun q => h0 (if_neg q)
  unfold P_X1_addTree
  refine ⟨fun q => no (fun z => absurd q (nI_ge (a := T) (b := 6) z.1 (by omega))) _ _ _, fun q => ?_⟩
  have hT : T < 6 := by
    by_cases z : T < 6
    · exact z
    · exact absurd (nI_le (a := 6) (by omega) (by omega)) q
  rw [c2]
  by_cases q0 : v0 < W
  · refine within_1 ((vInR hv0 (by omega)).mpr q0) ⟨fun z => absurd z (by decide), fun _ => ?_⟩
    by_cases q1 : v1 ≤ 40
    · refine within_1 ⟨nI_pos' (by omega), nI_le (b := 40) q1 (by omega)⟩ ⟨fun _ => ⟨ni_out (by omega) (by omega), ni_out (by omega) (by omega), ?_⟩, fun z => absurd z (by decide)⟩
      rw [cl (by omega), nI_1]
      refine h1 _ (if_pos ⟨hT, q0, q1⟩) _ _ _ ⟨c1, c2, rfl, c4, c5, fun t ht => ?_⟩
      simp only [va_up]
      by_cases et : t = T
      · subst et; rw [pk_us, pk_us, if_pos rfl, if_pos rfl]; exact ⟨rfl, rfl⟩
      · rw [pk_un et, pk_un et, if_neg et, if_neg et]; exact c6 t (by omega)
    · exact within_0 (fun z => q1 ((nI_leI (a := v1) (b := 40) (by omega) (by omega)).mp z.2)) ⟨fun z => absurd rfl z, fun _ => no (fun z => q1 z.2.2) _ _ _⟩
  · exact within_0 (fun z => q0 ((vInR hv0 (by omega)).mp z)) ⟨fun _ => no (fun z => q0 z.2.1) _ _ _, fun z => absurd rfl z⟩
end
