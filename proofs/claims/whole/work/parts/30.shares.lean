/-! HOURS among walls, purely: the k-th wall of a family has v k -/
def cnt (A B : Nat → Nat) (f : Nat) : Nat → Nat
  | 0 => 0
  | w + 1 => cnt A B f w + (if A w = f ∨ B w = f then 1 else 0)
def setS (W : Nat) (A B : Nat → Nat) (f : Nat) (v : Nat → Int32) (S : St) : St := (S.1, S.2.1, S.2.2.1, S.2.2.2.1, (fun w => if w < W ∧ A w = f then v (cnt A B f w) else S.2.2.2.2.1 w), (fun w => if w < W ∧ B w = f then v (cnt A B f w) else S.2.2.2.2.2 w))
def evV (h n k : Nat) : Int32 := nI (h / n + if k < h % n then 1 else 0)
def evS (W : Nat) (A B : Nat → Nat) (f h : Nat) (S : St) : St := setS W A B f (evV h (cnt A B f W)) S
/-- the owner of a side -/
def oS (A B : Nat → Nat) (j : Nat) : Nat := if j % 2 = 0 then A (j / 2) else B (j / 2)
def cs (A B : Nat → Nat) (f : Nat) : Nat → Nat
  | 0 => 0
  | j + 1 => cs A B f j + (if oS A B j = f then 1 else 0)
theorem oS_even (A B : Nat → Nat) (w : Nat) : oS A B (2 * w) = A w := by rw [oS, if_pos (by omega), show 2 * w / 2 = w by omega]
theorem oS_odd (A B : Nat → Nat) (w : Nat) : oS A B (2 * w + 1) = B w := by rw [oS, if_neg (by omega), show (2 * w + 1) / 2 = w by omega]
theorem cs_even {A B : Nat → Nat} {f W : Nat} (h : ∀ w, w < W → A w ≠ B w) : ∀ w, w ≤ W → cs A B f (2 * w) = cnt A B f w := by
  intro w
  induction w with
  | zero => intro _; rfl
  | succ w ih =>
    intro hw
    have e : 2 * (w + 1) = 2 * w + 1 + 1 := by omega
    rw [e, cs, cs, oS_even, oS_odd, ih (by omega), cnt]
    have := h w (by omega)
    by_cases h1 : A w = f
    · rw [if_pos h1, if_neg (by omega), if_pos (Or.inl h1)]
    · by_cases h2 : B w = f
      · rw [if_neg h1, if_pos h2, if_pos (Or.inr h2)]
      · rw [if_neg h1, if_neg h2, if_neg (by omega)]
theorem cs_odd {A B : Nat → Nat} {f W : Nat} (h : ∀ w, w < W → A w ≠ B w) {w : Nat} (hw : w < W) (hB : B w = f) : cs A B f (2 * w + 1) = cnt A B f w := by
  have := h w hw
  rw [cs, cs_even h w (by omega), oS_even, if_neg (by omega)]; rfl
theorem cs_le (A B : Nat → Nat) (f : Nat) : ∀ j, cs A B f j ≤ j := by
  intro j
  induction j with
  | zero => exact Nat.le_refl _
  | succ j ih => rw [cs]; split <;> omega
theorem cs_mono (A B : Nat → Nat) (f : Nat) : ∀ j i, i ≤ j → cs A B f i ≤ cs A B f j := by
  intro j
  induction j with
  | zero => intro i h; rw [show i = 0 by omega]; exact Nat.le_refl _
  | succ j ih =>
    intro i h
    by_cases e : i = j + 1
    · rw [e]; exact Nat.le_refl _
    · have := ih i (by omega)
      rw [cs]; omega
theorem cnt_le (A B : Nat → Nat) (f : Nat) : ∀ w, cnt A B f w ≤ w := by
  intro w
  induction w with
  | zero => exact Nat.le_refl _
  | succ w ih => rw [cnt]; split <;> omega
theorem cnt_mono (A B : Nat → Nat) (f : Nat) : ∀ j i, i ≤ j → cnt A B f i ≤ cnt A B f j := by
  intro j
  induction j with
  | zero => intro i h; rw [show i = 0 by omega]; exact Nat.le_refl _
  | succ j ih =>
    intro i h
    by_cases e : i = j + 1
    · rw [e]; exact Nat.le_refl _
    · have := ih i (by omega)
      rw [cnt]; omega
theorem cnt_lt {A B : Nat → Nat} {f w W : Nat} (hw : w < W) (h : A w = f ∨ B w = f) : cnt A B f w < cnt A B f W := by
  have h1 := cnt_mono A B f W (w + 1) hw
  rw [cnt, if_pos h] at h1
  omega
/-- what is so of owners -/
def OwC (W : Nat) (A B : Nat → Nat) (walls : Int32) (owners : Nat → Int32) : Prop := walls = nI W ∧ ∀ w, w < W → owners (2 * w) = nI (A w) ∧ owners (2 * w + 1) = nI (B w)
def OwV (F W : Nat) (A B : Nat → Nat) : Prop := F ≤ 6 ∧ W ≤ 9 ∧ ∀ w, w < W → A w < F ∧ B w < F ∧ A w ≠ B w
theorem OwC_side {F W : Nat} {A B : Nat → Nat} {walls : Int32} {owners : Nat → Int32} (hV : OwV F W A B) (h : OwC W A B walls owners) {j : Nat} (hj : j < 2 * W) : owners j = nI (oS A B j) ∧ oS A B j < F := by
  obtain ⟨h1, h2⟩ := h.2 (j / 2) (by omega)
  obtain ⟨a1, a2, -⟩ := hV.2.2 (j / 2) (by omega)
  rw [oS]
  by_cases e : j % 2 = 0
  · rw [if_pos e, ← h1, show 2 * (j / 2) = j by omega]; exact ⟨rfl, a1⟩
  · rw [if_neg e, ← h2, show 2 * (j / 2) + 1 = j by omega]; exact ⟨rfl, a2⟩
theorem own_eq {F W : Nat} {A B : Nat → Nat} {walls : Int32} {owners : Nat → Int32} (hV : OwV F W A B) (h : OwC W A B walls owners) {j f : Nat} (hj : j < 2 * W) (hf : f < F) : owners j = nI f ↔ oS A B j = f := by
  obtain ⟨e, hl⟩ := OwC_side hV h hj
  have := hV.1
  rw [e, nI_eq (by omega) (by omega)]
theorem wallsOf_C {F W : Nat} {A B : Nat → Nat} {walls : Int32} {owners : Nat → Int32} (hV : OwV F W A B) (h : OwC W A B walls owners) {f : Nat} (hf : f < F) {post : Int32 → Prop} (hp : post (nI (cnt A B f W))) : P_X1_wallsOf (nI f) walls owners post := by
  have key : ∀ k i, i + k = 2 * W → P_X1_wallsOf_L4 walls owners post (k + 1) (nI f) (nI (cs A B f i)) (nI i) := by
    have hW := hV.2.1
    intro k
    induction k with
    | zero =>
      intro i hi
      rw [P_X1_wallsOf_L4]
      unfold P_X1_sides
      rw [h.1, ni2]
      refine ⟨fun _ => ?_, fun q => absurd (nI_le (by omega) (by omega)) q⟩
      rw [show i = 2 * W by omega, cs_even (fun w hw => (hV.2.2 w hw).2.2) W (Nat.le_refl _)]; exact hp
    | succ k ih =>
      intro i hi
      rw [P_X1_wallsOf_L4]
      unfold P_X1_sides P_X1_wallsOf_b25
      rw [h.1, ni2]
      refine ⟨fun q => absurd q (nI_ge (by omega) (by omega)), fun _ => ⟨ni_out (by omega) (by omega), ?_⟩⟩
      rw [cl (by omega), ← h.1, own_eq hV h (by omega) hf, nI_1, nI_1]
      have := ih (i + 1) (by omega)
      rw [cs] at this
      refine ⟨fun q => ?_, fun q => ?_⟩
      · rw [if_neg q] at this; exact this
      · rw [if_pos q] at this; exact this
  unfold P_X1_wallsOf
  exact ⟨2 * W + 1, key (2 * W) 0 (by omega)⟩
/-- a stand with hours set anew, in the class -/
theorem StC_set {F W : Nat} {A B : Nat → Nat} {S : St} {days sick : Int32} {land places shares shares' : Nat → Int32} {f : Nat} {v : Nat → Int32} (hV : OwV F W A B) (hS : StC F S days sick land places shares) (h : ∀ j, j < 18 → shares' j = if j < 2 * W ∧ oS A B j = f then v (cs A B f j) else shares j) : StC F (setS W A B f v S) days sick land places shares' := by
  obtain ⟨h1, h2, h3, h4⟩ := hS
  refine ⟨h1, h2, h3, fun w hw => ⟨(h4 w hw).1, ?_, ?_⟩⟩
  · rw [h (2 * w) (by omega), oS_even]
    show _ = if w < W ∧ A w = f then _ else _
    by_cases q : w < W ∧ A w = f
    · rw [if_pos q, if_pos ⟨by omega, q.2⟩, cs_even (fun w hw => (hV.2.2 w hw).2.2) w (by omega)]
    · rw [if_neg q, if_neg (fun z => q ⟨by omega, z.2⟩)]; exact (h4 w hw).2.1
  · rw [h (2 * w + 1) (by omega), oS_odd]
    show _ = if w < W ∧ B w = f then _ else _
    by_cases q : w < W ∧ B w = f
    · rw [if_pos q, if_pos ⟨by omega, q.2⟩, cs_odd (fun w hw => (hV.2.2 w hw).2.2) q.1 q.2]
    · rw [if_neg q, if_neg (fun z => q ⟨by omega, z.2⟩)]; exact (h4 w hw).2.2
theorem left_le {a k : Nat} (ha : a < 2 ^ 30) (hk : k < 2 ^ 30) : nI a - nI k ≤ 0 ↔ a ≤ k := by
  rw [Int32.le_iff_toInt_le, pk_sub_toInt ha hk, show (0 : Int32).toInt = 0 from rfl]; omega
theorem left_m1 (a k : Nat) : nI a - nI k + (-1) = nI a - nI (k + 1) := by
  rw [nI_succ, Int32.sub_eq_add_neg, Int32.sub_eq_add_neg, Int32.neg_add, Int32.sub_eq_add_neg, ← Int32.add_assoc]
theorem shareEvenly_C {F W : Nat} {A B : Nat → Nat} {walls : Int32} {owners : Nat → Int32} (hV : OwV F W A B) (hO : OwC W A B walls owners) {S : St} {days sick : Int32} {land places shares : Nat → Int32} (hS : StC F S days sick land places shares) {f h : Nat} (hf : f < F) (hh : h ≤ 12) {post : (Nat → Int32) → Prop} (hp : ∀ shares', StC F (evS W A B f h S) days sick land places shares' → post shares') : P_X6_shareEvenly (nI f) (nI h) walls owners shares post := by
  have hW := hV.2.1
  have hcl := cnt_le A B f W
  unfold P_X6_shareEvenly
  refine wallsOf_C hV hO hf ?_
  have hn31 : cnt A B f W < 2 ^ 31 := by omega
  have hz : nI (cnt A B f W) = 0 ↔ cnt A B f W = 0 := ni_e0 hn31
  refine ⟨fun q => ?_, fun q => ?_⟩
  · have hn0 : 0 < cnt A B f W := Nat.pos_of_ne_zero (fun z => q (hz.mpr z))
    refine ⟨q, q, ⟨2 * W + 1, ?_⟩⟩
    rw [pk_rem (by omega) hn0 hn31, pk_div (by omega) hn0 hn31]
    have hmod : h % cnt A B f W < cnt A B f W := Nat.mod_lt _ hn0
    have key : ∀ k i sh, i + k = 2 * W → (∀ j, j < 18 → sh j = if j < i ∧ oS A B j = f then evV h (cnt A B f W) (cs A B f j) else shares j) → P_X6_shareEvenly_L28 walls owners post (k + 1) (nI f) (nI (h / cnt A B f W)) (nI (h % cnt A B f W) - nI (cs A B f i)) (nI i) sh := by
      intro k
      induction k with
      | zero =>
        intro i sh hi hsh
        rw [P_X6_shareEvenly_L28]
        unfold P_X1_sides
        rw [hO.1, ni2]
        refine ⟨fun _ => hp _ (StC_set hV hS (fun j hj => ?_)), fun q => absurd (nI_le (by omega) (by omega)) q⟩
        rw [hsh j hj, show i = 2 * W by omega]
      | succ k ih =>
        intro i sh hi hsh
        have hci := cs_le A B f i
        rw [P_X6_shareEvenly_L28]
        unfold P_X1_sides P_X6_shareEvenly_b68 P_X6_shareEvenly_b72
        rw [hO.1, ni2]
        refine ⟨fun q => absurd q (nI_ge (by omega) (by omega)), fun _ => ⟨ni_out (by omega) (by omega), ?_⟩⟩
        rw [cl (by omega), ← hO.1, own_eq hV hO (by omega) hf, nI_1, nI_1, left_le (by omega) (by omega), left_m1]
        have st : ∀ x, (∀ sh', (∀ j, j < 18 → sh' j = if j < i + 1 ∧ oS A B j = f then evV h (cnt A B f W) (cs A B f j) else shares j) → P_X6_shareEvenly_L28 walls owners post (k + 1) (nI f) (nI (h / cnt A B f W)) (nI (h % cnt A B f W) - nI (cs A B f (i + 1))) (nI (i + 1)) sh') → oS A B i = f → x = evV h (cnt A B f W) (cs A B f i) → vp_in (nI i) 18 ∧ P_X6_shareEvenly_L28 walls owners post (k + 1) (nI f) (nI (h / cnt A B f W)) (nI (h % cnt A B f W) - nI (cs A B f i + 1)) (nI (i + 1)) (upd sh i x) := by
          intro x hk ho hx
          refine ⟨ni_out (by omega) (by omega), ?_⟩
          have e : cs A B f i + 1 = cs A B f (i + 1) := by rw [cs, if_pos ho]
          rw [e]
          refine hk _ (fun j hj => ?_)
          by_cases ej : j = i
          · subst ej; rw [pk_us, if_pos ⟨by omega, ho⟩, hx]
          · rw [pk_un ej, hsh j hj]
            by_cases q : j < i ∧ oS A B j = f
            · rw [if_pos q, if_pos ⟨by omega, q.2⟩]
            · rw [if_neg q, if_neg (fun z => q ⟨by omega, z.2⟩)]
        refine ⟨fun q => ?_, fun q => ⟨fun r => st _ (fun sh' hsh' => ih (i + 1) sh' (by omega) hsh') q ?_, fun r => st _ (fun sh' hsh' => ih (i + 1) sh' (by omega) hsh') q ?_⟩⟩
        · have e : cs A B f (i + 1) = cs A B f i := by rw [cs, if_neg q]; rfl
          have := ih (i + 1) sh (by omega) (fun j hj => ?_)
          · rw [e] at this; exact this
          · rw [hsh j hj]
            by_cases ej : j = i
            · subst ej; rw [if_neg (by omega), if_neg (fun z => q z.2)]
            · by_cases q2 : j < i ∧ oS A B j = f
              · rw [if_pos q2, if_pos ⟨by omega, q2.2⟩]
              · rw [if_neg q2, if_neg (fun z => q2 ⟨by omega, z.2⟩)]
        · rw [evV, if_neg (by omega), Nat.add_zero]
        · rw [evV, if_pos (by omega)]
    have := key (2 * W) 0 shares (by omega) (fun j hj => by rw [if_neg (by omega)])
    rw [show nI (h % cnt A B f W) - nI (cs A B f 0) = nI (h % cnt A B f W) by show _ - 0 = _; exact Int32.sub_zero _] at this
    exact this
  · have hn0 := hz.mp q
    refine hp _ (StC_set hV hS (fun j hj => ?_))
    rw [if_neg]
    intro z
    have h1 := cs_mono A B f (2 * W) (j + 1) (by omega)
    rw [cs_even (fun w hw => (hV.2.2 w hw).2.2) W (Nat.le_refl _), hn0, cs, if_pos z.2] at h1
    omega
theorem shareBy_C {F W : Nat} {A B : Nat → Nat} {walls : Int32} {owners : Nat → Int32} (hV : OwV F W A B) (hO : OwC W A B walls owners) {S : St} {days sick : Int32} {land places shares way : Nat → Int32} (hS : StC F S days sick land places shares) {f : Nat} (hf : f < F) (h4 : cnt A B f W ≤ 4) {post : (Nat → Int32) → Prop} (hp : ∀ shares', StC F (setS W A B f way S) days sick land places shares' → post shares') : P_X6_shareBy (nI f) walls owners way shares post := by
  have hW := hV.2.1
  unfold P_X6_shareBy
  refine ⟨2 * W + 1, ?_⟩
  have key : ∀ k i sh, i + k = 2 * W → (∀ j, j < 18 → sh j = if j < i ∧ oS A B j = f then way (cs A B f j) else shares j) → P_X6_shareBy_L6 walls owners way post (k + 1) (nI f) (nI (cs A B f i)) (nI i) sh := by
    intro k
    induction k with
    | zero =>
      intro i sh hi hsh
      rw [P_X6_shareBy_L6]
      unfold P_X1_sides
      rw [hO.1, ni2]
      refine ⟨fun _ => hp _ (StC_set hV hS (fun j hj => ?_)), fun q => absurd (nI_le (by omega) (by omega)) q⟩
      rw [hsh j hj, show i = 2 * W by omega]
    | succ k ih =>
      intro i sh hi hsh
      have hci := cs_le A B f i
      rw [P_X6_shareBy_L6]
      unfold P_X1_sides P_X6_shareBy_b47
      rw [hO.1, ni2]
      refine ⟨fun q => absurd q (nI_ge (by omega) (by omega)), fun _ => ⟨ni_out (by omega) (by omega), ?_⟩⟩
      rw [cl (by omega), ← hO.1, own_eq hV hO (by omega) hf, nI_1, nI_1, cl (by omega)]
      refine ⟨fun q => ?_, fun q => ?_⟩
      · have e : cs A B f (i + 1) = cs A B f i := by rw [cs, if_neg q]; rfl
        have := ih (i + 1) sh (by omega) (fun j hj => ?_)
        · rw [e] at this; exact this
        · rw [hsh j hj]
          by_cases ej : j = i
          · subst ej; rw [if_neg (by omega), if_neg (fun z => q z.2)]
          · by_cases q2 : j < i ∧ oS A B j = f
            · rw [if_pos q2, if_pos ⟨by omega, q2.2⟩]
            · rw [if_neg q2, if_neg (fun z => q2 ⟨by omega, z.2⟩)]
      · have e : cs A B f i + 1 = cs A B f (i + 1) := by rw [cs, if_pos q]
        have h1 := cs_mono A B f (2 * W) (i + 1) (by omega)
        rw [cs_even (fun w hw => (hV.2.2 w hw).2.2) W (Nat.le_refl _)] at h1
        refine ⟨fun r => absurd r (nI_ge (a := cs A B f i) (b := 4) (by omega) (by omega)), fun _ => ⟨ni_out (by omega) (by omega), ni_out (by omega) (by omega), ?_⟩⟩
        rw [e]
        refine ih (i + 1) _ (by omega) (fun j hj => ?_)
        by_cases ej : j = i
        · subst ej; rw [pk_us, if_pos ⟨by omega, q⟩]
        · rw [pk_un ej, hsh j hj]
          by_cases q2 : j < i ∧ oS A B j = f
          · rw [if_pos q2, if_pos ⟨by omega, q2.2⟩]
          · rw [if_neg q2, if_neg (fun z => q2 ⟨by omega, z.2⟩)]
  exact key (2 * W) 0 shares (by omega) (fun j hj => by rw [if_neg (by omega)])
