section
variable {xl : Int32} {xt : Nat → Int32} {cf cw ct : Int32} {ck ch co ctw ctp : Nat → Int32} {nd ns : Int32} {nl np nsh : Nat → Int32} {us : Int32} {p8 : Nat → SVt} {ks : Int32} {p2 : Nat → SVt} {zs : Int32} {zw zp zd : Nat → Int32}
variable {mf mw mt : Int32} {msort mh mfi mse mby moff slot : Nat → Int32} {acts keeps ml : Int32} {mtx : Nat → Int32} {seens : Int32} {sw sp st : Nat → Int32} {idl : Int32}
/-! hours shared -/
def shN (S : St) (A B : Nat → Nat) (f w : Nat) : Nat := if A w = f then (S.2.2.2.2.1 w).toNatClampNeg else if B w = f then (S.2.2.2.2.2 w).toNatClampNeg else 0
def sdN (S : St) (j : Nat) : Nat := if j % 2 = 0 then (S.2.2.2.2.1 (j / 2)).toNatClampNeg else (S.2.2.2.2.2 (j / 2)).toNatClampNeg
def svN (S : St) (A B : Nat → Nat) (f j : Nat) : Nat := if oS A B j = f then sdN S j else 0
theorem sv_even {W : Nat} {S : St} {A B : Nat → Nat} {f : Nat} (h : ∀ w, w < W → A w ≠ B w) : ∀ w, w ≤ W → sumN (svN S A B f) (2 * w) = sumN (shN S A B f) w := by
  intro w
  induction w with
  | zero => intro _; rfl
  | succ w ih =>
    intro hw
    rw [show 2 * (w + 1) = 2 * w + 1 + 1 by omega, sumN, sumN, ih (by omega), sumN]
    have := h w (by omega)
    unfold svN shN sdN
    rw [oS_even, oS_odd, if_pos (show 2 * w % 2 = 0 by omega), if_neg (show ¬ (2 * w + 1) % 2 = 0 by omega), show 2 * w / 2 = w by omega, show (2 * w + 1) / 2 = w by omega]
    by_cases h1 : A w = f
    · rw [if_pos h1, if_pos h1, if_neg (by omega)]; omega
    · rw [if_neg h1, if_neg h1]; omega
theorem sumN_le {f : Nat → Nat} {n c : Nat} (h : ∀ i, i < n → f i ≤ c) : sumN f n ≤ c * n := by
  induction n with
  | zero => exact Nat.zero_le _
  | succ n ih =>
    have h1 := ih (fun i hi => h i (by omega))
    have h2 := h n (by omega)
    rw [sumN, Nat.mul_succ]; omega
theorem StV_sd {F W : Nat} {S : St} (h : StV F W S) {j : Nat} (hj : j < 2 * W) : sdN S j ≤ 12 ∧ (if j % 2 = 0 then S.2.2.2.2.1 (j / 2) else S.2.2.2.2.2 (j / 2)) = nI (sdN S j) := by
  obtain ⟨⟨a, ha, e1⟩, ⟨b, hb, e2⟩⟩ := h.2.2.1 (j / 2) (by omega)
  unfold sdN
  by_cases q : j % 2 = 0
  · rw [if_pos q, if_pos q, e1, cl (by omega)]; exact ⟨ha, rfl⟩
  · rw [if_neg q, if_neg q, e2, cl (by omega)]; exact ⟨hb, rfl⟩
theorem StC_sd {F W : Nat} {S : St} (h : StV F W S) {j : Nat} (hW : W ≤ 9) (hj : j < 2 * W) (hS : StC F S nd ns nl np nsh) : nsh j = nI (sdN S j) := by
  rw [← (StV_sd h hj).2]
  obtain ⟨-, h1, h2⟩ := hS.2.2.2 (j / 2) (by omega)
  by_cases q : j % 2 = 0
  · rw [if_pos q, ← h1, show 2 * (j / 2) = j by omega]
  · rw [if_neg q, ← h2, show 2 * (j / 2) + 1 = j by omega]
theorem shN_le {F W : Nat} {S : St} {A B : Nat → Nat} {f w : Nat} (h : StV F W S) (hw : w < W) : shN S A B f w ≤ 12 := by
  obtain ⟨⟨a, ha, e1⟩, ⟨b, hb, e2⟩⟩ := h.2.2.1 w hw
  unfold shN
  rw [e1, e2, cl (by omega), cl (by omega)]
  split
  · exact ha
  · split
    · exact hb
    · omega
theorem sharedBy_C {F W f : Nat} {S : St} {A B : Nat → Nat} {post : Int32 → Prop} (hV : OwV F W A B) (hO : OwC W A B cw co) (hf : f < F) (hS : StV F W S) (hSC : StC F S nd ns nl np nsh) (h : post (nI (sumN (shN S A B f) W))) : P_X6_sharedBy (nI f) cw co nsh post := by
  have hW := hV.2.1
  unfold P_X6_sharedBy
  refine ⟨2 * W + 1, ?_⟩
  have key : ∀ k i, i + k = 2 * W → P_X6_sharedBy_L5 cw co nsh post (k + 1) (nI f) (nI (sumN (svN S A B f) i)) (nI i) := by
    intro k
    induction k with
    | zero =>
      intro i hi
      rw [P_X6_sharedBy_L5]
      unfold P_X1_sides
      rw [hO.1, ni2]
      refine ⟨fun _ => ?_, fun q => absurd (nI_le (by omega) (by omega)) q⟩
      rw [show i = 2 * W by omega, sv_even (fun w hw => (hV.2.2 w hw).2.2) W (Nat.le_refl _)]; exact h
    | succ k ih =>
      intro i hi
      rw [P_X6_sharedBy_L5]
      unfold P_X1_sides P_X6_sharedBy_b35
      have hio := own_eq hV hO (j := i) (f := f) (by omega) hf
      have hsv := StC_sd hS hW (by omega : i < 2 * W) hSC
      rw [hO.1, ni2]
      refine ⟨fun q => absurd q (nI_ge (by omega) (by omega)), fun _ => ⟨ni_out (by omega) (by omega), ?_⟩⟩
      rw [cl (by omega), ← hO.1, hio, hsv, nI_1, na]
      have := ih (i + 1) (by omega)
      rw [sumN, svN] at this
      refine ⟨fun q => ?_, fun q => ⟨ni_out (by omega) (by omega), ?_⟩⟩
      · rw [if_neg q] at this; exact this
      · rw [if_pos q] at this; exact this
  exact key (2 * W) 0 (by omega)
theorem shareOf_M3 {F W b f w : Nat} {S : St} {A B : Nat → Nat} {post : Int32 → Prop} (hb : b + 35 ≤ 420) (hV : OwV F W A B) (hO : OwM W A B mw mfi mse) (hf : f < F) (hw : w < W) (ho : A w = f ∨ B w = f) (hS : StV F W S) (hSM : StM F b S slot) (h : post (nI (shN S A B f w))) : P_X9_shareOf (nI b) (nI f) (nI w) mfi slot post := by
  have hF := hV.1
  have hW := hV.2.1
  obtain ⟨a1, a2, a3⟩ := hV.2.2 w hw
  obtain ⟨⟨a, ha, e1⟩, ⟨c, hc, e2⟩⟩ := hS.2.2.1 w hw
  obtain ⟨-, g1, g2⟩ := hSM.2.2.2 w (by omega)
  unfold shN at h
  refine shareOf_M hb (by omega) (fun q => ?_) (fun q => ?_)
  · rw [(hO.2 w hw).1, nI_eq (by omega) (by omega)] at q
    rw [if_pos q, e1, cl (by omega)] at h
    rw [g1, e1]; exact h
  · rw [(hO.2 w hw).1, nI_eq (by omega) (by omega)] at q
    rw [if_neg q, if_pos (by omega), e2, cl (by omega)] at h
    rw [g2, e2]; exact h
theorem shared_M {F W b f : Nat} {S : St} {A B : Nat → Nat} {post : Int32 → Prop} (hb : b + 35 ≤ 420) (hV : OwV F W A B) (hO : OwM W A B mw mfi mse) (hf : f < F) (hS : StV F W S) (hSM : StM F b S slot) (h : post (nI (sumN (shN S A B f) W))) : P_X9_shared (nI b) (nI f) mw mfi mse slot post := by
  have hW := hV.2.1
  unfold P_X9_shared
  refine ⟨W + 1, ?_⟩
  have key : ∀ k i, i + k = W → P_X9_shared_L5 mw mfi mse slot post (k + 1) (nI b) (nI f) (nI (sumN (shN S A B f) i)) (nI i) := by
    intro k
    induction k with
    | zero =>
      intro i hi
      rw [P_X9_shared_L5, hO.1]
      have e : i = W := by omega
      subst e
      exact ⟨fun _ => h, fun q => absurd (nI_le (Nat.le_refl _) (by omega)) q⟩
    | succ k ih =>
      intro i hi
      rw [P_X9_shared_L5]
      refine ⟨fun q => absurd q (by rw [hO.1]; exact nI_ge (by omega) (by omega)), fun _ => ?_⟩
      have := ih (i + 1) (by omega)
      rw [sumN, ← na, ← nI_1] at this
      unfold P_X9_shared_b37
      refine isOf_M hV hO hf (by omega) (fun q => ⟨fun z => absurd z (by decide), fun _ => ?_⟩) (fun q => ⟨fun _ => ?_, fun z => absurd rfl z⟩)
      · exact shareOf_M3 hb hV hO hf (by omega) q hS hSM this
      · have e : shN S A B f i = 0 := by unfold shN; rw [if_neg (fun z => q (Or.inl z)), if_neg (fun z => q (Or.inr z))]
        rw [e] at this; exact this
  exact key W 0 (by omega)
/-- one share set anew -/
def set1 (A : Nat → Nat) (f w : Nat) (x : Int32) (S : St) : St := if A w = f then (S.1, S.2.1, S.2.2.1, S.2.2.2.1, va_up S.2.2.2.2.1 w x, S.2.2.2.2.2) else (S.1, S.2.1, S.2.2.1, S.2.2.2.1, S.2.2.2.2.1, va_up S.2.2.2.2.2 w x)
theorem set1_V {F W f w h : Nat} {A : Nat → Nat} {S : St} (hS : StV F W S) (hw : w < W) (hh : h ≤ 12) : StV F W (set1 A f w (nI h) S) := by
  obtain ⟨h1, h2, h3, h4⟩ := hS
  unfold set1
  split
  · refine ⟨h1, fun v hv hv9 => ?_, fun v hv => ?_, h4⟩
    · obtain ⟨a, b, c⟩ := h2 v hv hv9
      refine ⟨a, ?_, c⟩
      simp only [va_up]; rw [if_neg (by omega)]; exact b
    · obtain ⟨a, b⟩ := h3 v hv
      refine ⟨?_, b⟩
      simp only [va_up]
      split
      · exact ⟨h, hh, rfl⟩
      · exact a
  · refine ⟨h1, fun v hv hv9 => ?_, fun v hv => ?_, h4⟩
    · obtain ⟨a, b, c⟩ := h2 v hv hv9
      refine ⟨a, b, ?_⟩
      simp only [va_up]; rw [if_neg (by omega)]; exact c
    · obtain ⟨a, b⟩ := h3 v hv
      refine ⟨a, ?_⟩
      simp only [va_up]
      split
      · exact ⟨h, hh, rfl⟩
      · exact b
theorem set1_sum {F W f w h : Nat} {A B : Nat → Nat} {S : St} (hV : OwV F W A B) (hw : w < W) (ho : A w = f ∨ B w = f) (hh : h ≤ 12) : sumN (shN (set1 A f w (nI h) S) A B f) W + shN S A B f w = sumN (shN S A B f) W + h := by
  rw [← sumN_up (f := shN S A B f) (v := h) hw]
  congr 1
  refine sumN_congr (fun i hi => ?_)
  obtain ⟨a1, a2, a3⟩ := hV.2.2 i hi
  unfold shN set1
  by_cases q : A w = f
  · rw [if_pos q]
    simp only [va_up]
    by_cases e : i = w
    · subst e; rw [if_pos q, if_pos rfl, if_pos rfl, cl (by omega)]
    · rw [if_neg e, if_neg e]
  · rw [if_neg q]
    have q2 : B w = f := by omega
    simp only [va_up]
    by_cases e : i = w
    · subst e; rw [if_neg q, if_pos q2, if_pos rfl, if_pos rfl, cl (by omega)]
    · rw [if_neg e, if_neg e]
theorem set1_C {F W f w j : Nat} {A : Nat → Nat} {S : St} {x : Int32} (hW : W ≤ 9) (hw : w < W) (hj : j = if A w = f then 2 * w else 2 * w + 1) (h : StC F S nd ns nl np nsh) : StC F (set1 A f w x S) nd ns nl np (upd nsh j x) := by
  obtain ⟨h1, h2, h3, h4⟩ := h
  unfold set1
  by_cases q : A w = f
  · rw [if_pos q] at hj ⊢
    subst hj
    refine ⟨h1, h2, h3, fun v hv => ⟨(h4 v hv).1, ?_, ?_⟩⟩
    · simp only [va_up]
      by_cases e : v = w
      · subst e; rw [if_pos rfl, pk_us]
      · rw [if_neg e, pk_un (by omega)]; exact (h4 v hv).2.1
    · rw [pk_un (by omega)]; exact (h4 v hv).2.2
  · rw [if_neg q] at hj ⊢
    subst hj
    refine ⟨h1, h2, h3, fun v hv => ⟨(h4 v hv).1, ?_, ?_⟩⟩
    · rw [pk_un (by omega)]; exact (h4 v hv).2.1
    · simp only [va_up]
      by_cases e : v = w
      · subst e; rw [if_pos rfl, pk_us]
      · rw [if_neg e, pk_un (by omega)]; exact (h4 v hv).2.2
theorem set1_M {F W f w b : Nat} {A : Nat → Nat} {S : St} {x : Int32} (hF : F ≤ 6) (hW : W ≤ 9) (hw : w < W) (h : StM F b S slot) : StM F b (set1 A f w x S) (upd slot (shp A b f w) x) := by
  obtain ⟨h1, h2, h3, h4⟩ := h
  unfold set1 shp
  by_cases q : A w = f
  · rw [if_pos q, if_pos q]
    refine ⟨by rw [pk_un (by omega)]; exact h1, by rw [pk_un (by omega)]; exact h2, fun g hg => by rw [pk_un (by omega)]; exact h3 g hg, fun v hv => ⟨?_, ?_, ?_⟩⟩
    · rw [pk_un (by omega)]; exact (h4 v hv).1
    · simp only [va_up]
      by_cases e : v = w
      · subst e; rw [if_pos rfl, pk_us]
      · rw [if_neg e, pk_un (by omega)]; exact (h4 v hv).2.1
    · rw [pk_un (by omega)]; exact (h4 v hv).2.2
  · rw [if_neg q, if_neg q]
    refine ⟨by rw [pk_un (by omega)]; exact h1, by rw [pk_un (by omega)]; exact h2, fun g hg => by rw [pk_un (by omega)]; exact h3 g hg, fun v hv => ⟨?_, ?_, ?_⟩⟩
    · rw [pk_un (by omega)]; exact (h4 v hv).1
    · rw [pk_un (by omega)]; exact (h4 v hv).2.1
    · simp only [va_up]
      by_cases e : v = w
      · subst e; rw [if_pos rfl, pk_us]
      · rw [if_neg e, pk_un (by omega)]; exact (h4 v hv).2.2
theorem left_alg {hh s a h : Nat} (ha : a ≤ s) : nI hh - nI s + nI a - nI h = nI hh - nI (s - a + h) := by
  have e : nI s = nI (s - a) + nI a := by rw [na, Nat.sub_add_cancel ha]
  rw [e, ← na]
  generalize nI (s - a) = p
  generalize nI a = q
  generalize nI h = r
  generalize nI hh = t
  grind
theorem left_0 {hh t : Nat} (h1 : hh < 2 ^ 30) (h2 : t < 2 ^ 30) : 0 ≤ nI hh - nI t ↔ t ≤ hh := by
  rw [Int32.le_iff_toInt_le, pk_sub_toInt h1 h2, show (0 : Int32).toInt = 0 from rfl]; omega
theorem share_C {F W f w x u hh : Nat} {A B : Nat → Nat} {S : St} {post : Int32 → (Nat → Int32) → Int32 → (Nat → SVt) → Prop} (hV : OwV F W A B) (hO : OwC W A B cw co) (ecf : cf = nI F) (hf : f < F) (hw : w < W) (hx : x ≤ 12) (hu : u ≤ 8) (hhr : ch f = nI hh) (hh12 : hh ≤ 12) (hS : StV F W S) (hSC : StC F S nd ns nl np nsh)
    (h0 : ¬ (A w = f ∨ B w = f) → post (-2) nsh (nI u) p8) (h1 : (A w = f ∨ B w = f) → ¬ sumN (shN S A B f) W - shN S A B f w + x ≤ hh → post (-2) nsh (nI u) p8)
    (h2 : (A w = f ∨ B w = f) → sumN (shN S A B f) W - shN S A B f w + x ≤ hh → ∀ nsh', StC F (set1 A f w (nI x) S) nd ns nl np nsh' → post (nI hh - nI (sumN (shN S A B f) W - shN S A B f w + x)) nsh' (nI (putN u)) (putP u p8 nd ns nl np nsh)) : P_X8_share (nI f) (nI w) (nI x) cf cw co ch nd ns nsh (nI u) p8 nl np post := by
  have hF := hV.1
  have hW := hV.2.1
  obtain ⟨a1, a2, a3⟩ := hV.2.2 w hw
  have cA : co (2 * w) = nI f ↔ A w = f := by rw [(hO.2 w hw).1, nI_eq (by omega) (by omega)]
  have cB : co (2 * w + 1) = nI f ↔ B w = f := by rw [(hO.2 w hw).2, nI_eq (by omega) (by omega)]
  have hsum := sumN_le (f := shN S A B f) (n := W) (c := 12) (fun i hi => shN_le hS hi)
  have hle := le_sumN (f := shN S A B f) hw
  unfold P_X8_share
  refine famC_1 (by rw [ecf]; exact nI_InR (by omega) hf) ⟨fun z => absurd z (by decide), fun _ => ?_⟩
  refine walC_1 (by rw [hO.1]; exact nI_InR (by omega) hw) ⟨fun z => absurd z (by decide), fun _ => ?_⟩
  refine within_1 ⟨nI_pos' (by omega), nI_le (b := 12) hx (by omega)⟩ ⟨fun _ => ?_, fun z => absurd z (by decide)⟩
  unfold P_X1_sideAt
  rw [ni2s, ni2, cl (n := 2 * w) (by omega), cl (n := 2 * w + 1) (by omega), cA, cB]
  refine ⟨ni_out (by omega) (by omega), fun q => ⟨ni_out (by omega) (by omega), fun q2 => ⟨fun z => absurd rfl z, fun _ => h0 (by omega)⟩, fun q2 => ⟨fun _ => ⟨ni_out (by omega) (by omega), ?_⟩, fun z => absurd z (ne_m4 (by omega))⟩⟩, fun q => ⟨fun _ => ⟨ni_out (by omega) (by omega), ?_⟩, fun z => absurd z (ne_m4 (by omega))⟩⟩
  · have hsj : nsh (2 * w + 1) = nI (shN S A B f w) := by
      rw [StC_sd hS (by omega) (by omega : 2 * w + 1 < 2 * W) hSC]
      congr 1
      unfold sdN shN
      rw [if_neg q, if_pos q2, if_neg (by omega), show (2 * w + 1) / 2 = w by omega]
    refine sharedBy_C hV hO hf hS hSC ⟨ni_out (by omega) (by omega), ?_⟩
    rw [cl (by omega), cl (by omega), hhr, hsj, left_alg hle, left_0 (by omega) (by omega)]
    refine ⟨fun r => put8_C hu ⟨ni_out (by omega) (by omega), ?_⟩, fun r => h1 (Or.inr q2) r⟩
    exact h2 (Or.inr q2) r _ (set1_C (by omega) hw (by rw [if_neg q]) hSC)
  · have hsj : nsh (2 * w) = nI (shN S A B f w) := by
      rw [StC_sd hS (by omega) (by omega : 2 * w < 2 * W) hSC]
      congr 1
      unfold sdN shN
      rw [if_pos q, if_pos (by omega), show 2 * w / 2 = w by omega]
    refine sharedBy_C hV hO hf hS hSC ⟨ni_out (by omega) (by omega), ?_⟩
    rw [cl (by omega), cl (by omega), hhr, hsj, left_alg hle, left_0 (by omega) (by omega)]
    refine ⟨fun r => put8_C hu ⟨ni_out (by omega) (by omega), ?_⟩, fun r => h1 (Or.inl q) r⟩
    exact h2 (Or.inl q) r _ (set1_C (by omega) hw (by rw [if_pos q]) hSC)
theorem share_M {F W f w x u hh : Nat} {A B : Nat → Nat} {S : St} {post : Int32 → Int32 → (Nat → Int32) → Prop} (hV : OwV F W A B) (hO : OwM W A B mw mfi mse) (emf : mf = nI F) (hf : f < F) (hw : w < W) (hx : x ≤ 12) (hu : u ≤ 8) (hhr : mh f = nI hh) (hh12 : hh ≤ 12) (hS : StV F W S) (hSM : StM F 0 S slot)
    (h0 : ¬ (A w = f ∨ B w = f) → post (-2) (nI u) slot) (h1 : (A w = f ∨ B w = f) → ¬ sumN (shN S A B f) W - shN S A B f w + x ≤ hh → post (-2) (nI u) slot)
    (h2 : (A w = f ∨ B w = f) → sumN (shN S A B f) W - shN S A B f w + x ≤ hh → ∀ slot2 slot3, KnP u slot slot2 → StM F 0 (set1 A f w (nI x) S) slot3 → (∀ i, 35 ≤ i → slot3 i = slot2 i) → post (nI hh - nI (sumN (shN S A B f) W - shN S A B f w + x)) (nI (putN u)) slot3) : P_X9_share (nI f) (nI w) (nI x) mf mw (nI u) mfi mse slot mh post := by
  have hF := hV.1
  have hW := hV.2.1
  have hsum := sumN_le (f := shN S A B f) (n := W) (c := 12) (fun i hi => shN_le hS hi)
  have hle := le_sumN (f := shN S A B f) hw
  unfold P_X9_share
  refine famM_1 (by rw [emf]; exact nI_InR (by omega) hf) ⟨fun z => absurd z (by decide), fun _ => ?_⟩
  refine walM_1 (by rw [hO.1]; exact nI_InR (by omega) hw) ⟨fun z => absurd z (by decide), fun _ => ?_⟩
  refine in_y (lo := 0) (hi := 12) ⟨nI_pos' (by omega), nI_le (b := 12) hx (by omega)⟩ (by decide +kernel) (by decide +kernel) ⟨fun _ => ?_, fun z => absurd z (by decide)⟩
  refine isOf_M hV hO hf hw (fun ho => ⟨fun z => absurd z (by decide), fun _ => ?_⟩) (fun z => ⟨fun _ => h0 z, fun z => absurd rfl z⟩)
  refine shared_M (b := 0) (by omega) hV hO hf hS hSM ?_
  refine shareOf_M3 (b := 0) (by omega) hV hO hf hw ho hS hSM ⟨ni_out (by omega) (by omega), ?_⟩
  rw [cl (by omega), hhr, pk_sub hle, na, nI_leI (by omega) (by omega)]
  refine ⟨fun q => ?_, fun q => h1 ho q⟩
  refine known_M hu (fun slot2 hkn => ?_)
  refine puts_M (b := 0) hV hO (by omega) hf hw ⟨ni_out (by omega) (by omega), ?_⟩
  have hSM2 : StM F 0 S slot2 := StM_row hF hSM (fun k hk => hkn.2.1 _ (by omega))
  have hV1 := set1_V (A := A) (f := f) hS hw hx
  have hM1 := set1_M (A := A) (f := f) (x := nI x) hF (by omega) hw hSM2
  refine shared_M (b := 0) (by omega) hV hO hf hV1 hM1 ?_
  have e := set1_sum (S := S) hV hw ho hx
  rw [show sumN (shN (set1 A f w (nI x) S) A B f) W = sumN (shN S A B f) W - shN S A B f w + x by omega]
  exact h2 ho q slot2 _ hkn hM1 (fun i hi => pk_un (shp_out (by omega) (by omega)))
theorem q_share (h : RelX xl xt cf cw ct ck ch co ctw ctp nd ns nl np nsh us p8 ks p2 zs zw zp zd mf mw mt msort mh mfi mse mby moff slot acts keeps ml mtx seens sw sp st idl) (x1 x2 x3 : Int32) : P_X8_share x1 x2 x3 cf cw co ch nd ns nsh us p8 nl np (fun r nsh' us' p8' => P_X9_share x1 x2 x3 mf mw acts mfi mse slot mh (fun r' acts' slot' => r = r' ∧ RelX xl xt cf cw ct ck ch co ctw ctp nd ns nl np nsh' us' p8' ks p2 zs zw zp zd mf mw mt msort mh mfi mse mby moff slot' acts' keeps ml mtx seens sw sp st idl)) := by
  obtain ⟨hT, hI, F, W, T, kd, hr, A, B, tw, tp, hC, hN, ⟨u, hu, rfl, rfl, hk⟩, hK, hZ⟩ := h
  have hF := hC.1.1
  obtain ⟨hV, hF1, hW8, hT6, hr12, -, -, ecf, emf, -, -, hKC, hKM, hhr, -⟩ := id hC
  have same : ∀ r : Int32, r = r ∧ RelX xl xt cf cw ct ck ch co ctw ctp nd ns nl np nsh (nI u) p8 ks p2 zs zw zp zd mf mw mt msort mh mfi mse mby moff slot (nI u) keeps ml mtx seens sw sp st idl := fun r => ⟨rfl, hT, hI, F, W, T, kd, hr, A, B, tw, tp, hC, hN, ⟨u, hu, rfl, rfl, hk⟩, hK, hZ⟩
  obtain ⟨S, hS, hSC, hSM⟩ := id hN
  by_cases h1 : InR x1 0 (nI F - 1)
  · by_cases h2 : InR x2 0 (nI W - 1)
    · by_cases h3 : InR x3 0 12
      · obtain ⟨f, hf, rfl⟩ := InR_n (by omega) h1
        obtain ⟨w, hw, rfl⟩ := InR_n (by omega) h2
        obtain ⟨x, -, hx, rfl⟩ := InR_c (lo := 0) (hi := 12) (by omega) (by omega) h3
        refine share_C hV.ow hKC.ow ecf hf hw hx hu (hhr f hf).1 (hr12 f hf) hS hSC (fun ho => ?_) (fun ho hl => ?_) (fun ho hl nsh' hC' => ?_)
        · exact share_M hV.ow hKM.ow emf hf hw hx hu (hhr f hf).2 (hr12 f hf) hS hSM (fun _ => same _) (fun z => absurd z ho) (fun z => absurd z ho)
        · exact share_M hV.ow hKM.ow emf hf hw hx hu (hhr f hf).2 (hr12 f hf) hS hSM (fun _ => same _) (fun _ _ => same _) (fun _ z => absurd z hl)
        · refine share_M hV.ow hKM.ow emf hf hw hx hu (hhr f hf).2 (hr12 f hf) hS hSM (fun z => absurd ho z) (fun _ z => absurd hl z) (fun _ _ slot2 slot3 hkn hM hfar => ?_)
          exact ⟨rfl, hT, hI, F, W, T, kd, hr, A, B, tw, tp, hC, ⟨_, set1_V hS hw hx, hC', hM⟩, RUn_row hF (RUn_put hF hu hN hk hkn) (fun i hi _ => hfar i hi), RKe_row hF hK (fun i hi _ => by rw [hfar i (by omega)]; exact hkn.2.1 i (by omega)), hZ⟩
      · unfold P_X8_share P_X9_share
        refine famC_1 (by rw [ecf]; exact h1) ⟨fun z => absurd z (by decide), fun _ => ?_⟩
        refine walC_1 (by rw [hKC.1]; exact h2) ⟨fun z => absurd z (by decide), fun _ => ?_⟩
        refine within_0 h3 ⟨fun z => absurd rfl z, fun _ => ?_⟩
        refine famM_1 (by rw [emf]; exact h1) ⟨fun z => absurd z (by decide), fun _ => ?_⟩
        refine walM_1 (by rw [hKM.1]; exact h2) ⟨fun z => absurd z (by decide), fun _ => ?_⟩
        exact in_n h3 (by decide +kernel) (by decide +kernel) ⟨fun z => absurd rfl z, fun _ => same _⟩
    · unfold P_X8_share P_X9_share
      refine famC_1 (by rw [ecf]; exact h1) ⟨fun z => absurd z (by decide), fun _ => ?_⟩
      refine walC_0 (by rw [hKC.1]; exact h2) ⟨fun _ => ?_, fun z => absurd rfl z⟩
      refine famM_1 (by rw [emf]; exact h1) ⟨fun z => absurd z (by decide), fun _ => ?_⟩
      exact walM_0 (by rw [hKM.1]; exact h2) ⟨fun _ => same _, fun z => absurd rfl z⟩
  · unfold P_X8_share P_X9_share
    refine famC_0 (by rw [ecf]; exact h1) ⟨fun _ => ?_, fun z => absurd rfl z⟩
    exact famM_0 (by rw [emf]; exact h1) ⟨fun _ => same _, fun z => absurd rfl z⟩
end
