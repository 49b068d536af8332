/-! the same in the reference -/
def OwM (W : Nat) (A B : Nat → Nat) (walls : Int32) (first second : Nat → Int32) : Prop := walls = nI W ∧ ∀ w, w < W → first w = nI (A w) ∧ second w = nI (B w)
theorem isOf_M {F W : Nat} {A B : Nat → Nat} {walls : Int32} {first second : Nat → Int32} (hV : OwV F W A B) (hO : OwM W A B walls first second) {f w : Nat} (hf : f < F) (hw : w < W) {post : Int32 → Prop} (h1 : (A w = f ∨ B w = f) → post 1) (h0 : ¬ (A w = f ∨ B w = f) → post 0) : P_X9_isOf (nI f) (nI w) first second post := by
  have hF := hV.1
  have hW := hV.2.1
  obtain ⟨a1, a2, a3⟩ := hV.2.2 w hw
  unfold P_X9_isOf P_X9_isOf_b20
  rw [cl (by omega), (hO.2 w hw).1, (hO.2 w hw).2, nI_eq (by omega) (by omega), nI_eq (by omega) (by omega)]
  exact ⟨ni_out (by omega) (by omega), fun q => h1 (Or.inl q), fun q => ⟨ni_out (by omega) (by omega), fun r => h0 (by omega), fun r => h1 (Or.inr r)⟩⟩
theorem many_M {F W : Nat} {A B : Nat → Nat} {walls : Int32} {first second : Nat → Int32} (hV : OwV F W A B) (hO : OwM W A B walls first second) {f : Nat} (hf : f < F) {post : Int32 → Prop} (hp : post (nI (cnt A B f W))) : P_X9_many (nI f) walls first second post := by
  have hW := hV.2.1
  have key : ∀ k i, i + k = W → P_X9_many_L4 walls first second post (k + 1) (nI f) (nI (cnt A B f i)) (nI i) := by
    intro k
    induction k with
    | zero =>
      intro i hi
      rw [P_X9_many_L4, hO.1]
      refine ⟨fun _ => ?_, fun q => absurd (nI_le (by omega) (by omega)) q⟩
      rw [show i = W by omega]; exact hp
    | succ k ih =>
      intro i hi
      rw [P_X9_many_L4]
      refine ⟨fun q => absurd q (by rw [hO.1]; exact nI_ge (by omega) (by omega)), fun _ => ?_⟩
      have := ih (i + 1) (by omega)
      rw [cnt] at this
      unfold P_X9_many_b27
      refine isOf_M hV hO hf (by omega) (fun q => ⟨fun z => absurd z (by decide), fun _ => ?_⟩) (fun q => ⟨fun _ => ?_, fun z => absurd rfl z⟩)
      · rw [nI_1, nI_1]; rw [if_pos q] at this; exact this
      · rw [nI_1, Int32.add_zero]; rw [if_neg q] at this; exact this
  unfold P_X9_many
  exact ⟨W + 1, key W 0 (by omega)⟩
/-- where a share stands -/
def shp (A : Nat → Nat) (b f w : Nat) : Nat := if A w = f then b + 15 + w else b + 24 + w
theorem puts_M {F W : Nat} {A B : Nat → Nat} {walls : Int32} {first second : Nat → Int32} (hV : OwV F W A B) (hO : OwM W A B walls first second) {b f w : Nat} {x : Int32} {slot : Nat → Int32} (hb : b + 35 ≤ 420) (hf : f < F) (hw : w < W) {post : (Nat → Int32) → Prop} (hp : post (upd slot (shp A b f w) x)) : P_X9_puts (nI b) (nI f) (nI w) x first slot post := by
  have hF := hV.1
  have hW := hV.2.1
  obtain ⟨a1, a2, a3⟩ := hV.2.2 w hw
  unfold P_X9_puts P_X9_puts_b22
  rw [cl (by omega), (hO.2 w hw).1, nI_eq (by omega) (by omega), l15, l24, na, na, na, na, cl (by omega), cl (by omega)]
  rw [shp] at hp
  refine ⟨ni_out (by omega) (by omega), fun q => ⟨ni_out (by omega) (by omega), ?_⟩, fun q => ⟨ni_out (by omega) (by omega), ?_⟩⟩
  · rw [if_neg q] at hp; exact hp
  · rw [if_pos q] at hp; exact hp
/-- shares set, as far as the wall i -/
def StMs (F W : Nat) (A B : Nat → Nat) (f b i : Nat) (v : Nat → Int32) (S : St) (slot slot0 : Nat → Int32) : Prop := StM F b (setS i A B f v S) slot ∧ ∀ j, (j < b ∨ b + 35 ≤ j) → slot j = slot0 j
theorem setS_0 {A B : Nat → Nat} {f : Nat} {v : Nat → Int32} {F b : Nat} {S : St} {slot : Nat → Int32} (h : StM F b S slot) : StM F b (setS 0 A B f v S) slot := by
  obtain ⟨h1, h2, h3, h4⟩ := h
  refine ⟨h1, h2, h3, fun w hw => ⟨(h4 w hw).1, ?_, ?_⟩⟩
  · show _ = if w < 0 ∧ A w = f then v (cnt A B f w) else S.2.2.2.2.1 w
    rw [if_neg (by omega)]; exact (h4 w hw).2.1
  · show _ = if w < 0 ∧ B w = f then v (cnt A B f w) else S.2.2.2.2.2 w
    rw [if_neg (by omega)]; exact (h4 w hw).2.2
theorem setS_next {F W : Nat} {A B : Nat → Nat} (hV : OwV F W A B) {f b i : Nat} {v : Nat → Int32} {S : St} {slot : Nat → Int32} (hi : i < W) (ho : A i = f ∨ B i = f) (h : StM F b (setS i A B f v S) slot) : StM F b (setS (i + 1) A B f v S) (upd slot (shp A b f i) (v (cnt A B f i))) := by
  have hF := hV.1
  have hW := hV.2.1
  obtain ⟨a1, a2, a3⟩ := hV.2.2 i hi
  obtain ⟨h1, h2, h3, h4⟩ := h
  have hs : b + 15 ≤ shp A b f i ∧ shp A b f i < b + 33 := by unfold shp; split <;> omega
  refine ⟨by rw [pk_un (by omega)]; exact h1, by rw [pk_un (by omega)]; exact h2, fun g hg => by rw [pk_un (by omega)]; exact h3 g hg, fun w hw => ⟨by rw [pk_un (by omega)]; exact (h4 w hw).1, ?_, ?_⟩⟩
  · have e := (h4 w hw).2.1
    show _ = if w < i + 1 ∧ A w = f then v (cnt A B f w) else S.2.2.2.2.1 w
    have e : slot (b + 15 + w) = if w < i ∧ A w = f then v (cnt A B f w) else S.2.2.2.2.1 w := e
    by_cases q : w = i ∧ A w = f
    · obtain ⟨rfl, q⟩ := q
      rw [if_pos ⟨by omega, q⟩, shp, if_pos q, pk_us]
    · have hne : b + 15 + w ≠ shp A b f i := by
        unfold shp
        split
        · next hq => intro z; have e3 : w = i := by omega
                     exact q ⟨e3, by rw [e3]; exact hq⟩
        · omega
      rw [pk_un hne, e]
      by_cases q2 : w < i ∧ A w = f
      · rw [if_pos q2, if_pos ⟨by omega, q2.2⟩]
      · rw [if_neg q2, if_neg (fun z => q ⟨by omega, z.2⟩)]
  · show _ = if w < i + 1 ∧ B w = f then v (cnt A B f w) else S.2.2.2.2.2 w
    have e : slot (b + 24 + w) = if w < i ∧ B w = f then v (cnt A B f w) else S.2.2.2.2.2 w := (h4 w hw).2.2
    by_cases q : w = i ∧ B w = f
    · obtain ⟨rfl, q⟩ := q
      rw [if_pos ⟨by omega, q⟩, shp, if_neg (by omega), pk_us]
    · have hne : b + 24 + w ≠ shp A b f i := by
        unfold shp
        split
        · omega
        · next hq => intro z; exact q ⟨by omega, by rw [show w = i by omega]; omega⟩
      rw [pk_un hne, e]
      by_cases q2 : w < i ∧ B w = f
      · rw [if_pos q2, if_pos ⟨by omega, q2.2⟩]
      · rw [if_neg q2, if_neg (fun z => q ⟨by omega, z.2⟩)]
theorem setS_skip {A B : Nat → Nat} {F f b i : Nat} {v : Nat → Int32} {S : St} {slot : Nat → Int32} (ho : ¬ (A i = f ∨ B i = f)) (h : StM F b (setS i A B f v S) slot) : StM F b (setS (i + 1) A B f v S) slot := by
  obtain ⟨h1, h2, h3, h4⟩ := h
  refine ⟨h1, h2, h3, fun w hw => ⟨(h4 w hw).1, ?_, ?_⟩⟩
  · have e : slot (b + 15 + w) = if w < i ∧ A w = f then v (cnt A B f w) else S.2.2.2.2.1 w := (h4 w hw).2.1
    show _ = if w < i + 1 ∧ A w = f then v (cnt A B f w) else S.2.2.2.2.1 w
    rw [e]
    by_cases q : w < i ∧ A w = f
    · rw [if_pos q, if_pos ⟨by omega, q.2⟩]
    · rw [if_neg q, if_neg (fun z => q ⟨by have : w ≠ i := fun e => ho (Or.inl (by rw [← e]; exact z.2)); omega, z.2⟩)]
  · have e : slot (b + 24 + w) = if w < i ∧ B w = f then v (cnt A B f w) else S.2.2.2.2.2 w := (h4 w hw).2.2
    show _ = if w < i + 1 ∧ B w = f then v (cnt A B f w) else S.2.2.2.2.2 w
    rw [e]
    by_cases q : w < i ∧ B w = f
    · rw [if_pos q, if_pos ⟨by omega, q.2⟩]
    · rw [if_neg q, if_neg (fun z => q ⟨by have : w ≠ i := fun e => ho (Or.inr (by rw [← e]; exact z.2)); omega, z.2⟩)]
theorem shp_out {A : Nat → Nat} {b f w j : Nat} (hw : w < 9) (hj : j < b ∨ b + 35 ≤ j) : j ≠ shp A b f w := by
  unfold shp; split <;> omega
theorem evenly_M {F W : Nat} {A B : Nat → Nat} {walls : Int32} {first second : Nat → Int32} (hV : OwV F W A B) (hO : OwM W A B walls first second) {S : St} {b f h : Nat} {slot : Nat → Int32} (hb : b + 35 ≤ 420) (hS : StM F b S slot) (hf : f < F) (hh : h ≤ 12) {post : (Nat → Int32) → Prop} (hp : ∀ slot', StM F b (evS W A B f h S) slot' → (∀ j, (j < b ∨ b + 35 ≤ j) → slot' j = slot j) → post slot') : P_X9_evenly (nI b) (nI f) (nI h) walls first second slot post := by
  have hW := hV.2.1
  have hcl := cnt_le A B f W
  have hn31 : cnt A B f W < 2 ^ 31 := by omega
  unfold P_X9_evenly
  refine many_M hV hO hf ⟨W + 1, ?_⟩
  have key : ∀ k i sl, i + k = W → StM F b (setS i A B f (evV h (cnt A B f W)) S) sl → (∀ j, (j < b ∨ b + 35 ≤ j) → sl j = slot j) → P_X9_evenly_L13 walls first second post (k + 1) (nI b) (nI f) (nI h) (nI (cnt A B f W)) (nI (cnt A B f i)) (nI i) sl := by
    intro k
    induction k with
    | zero =>
      intro i sl hi hs hfar
      rw [P_X9_evenly_L13, hO.1]
      have e : i = W := by omega
      subst e
      exact ⟨fun _ => hp sl hs hfar, fun q => absurd (nI_le (by omega) (by omega)) q⟩
    | succ k ih =>
      intro i sl hi hs hfar
      rw [P_X9_evenly_L13]
      refine ⟨fun q => absurd q (by rw [hO.1]; exact nI_ge (by omega) (by omega)), fun _ => ?_⟩
      refine isOf_M hV hO hf (by omega) (fun q => ⟨fun z => absurd z (by decide), fun _ => ?_⟩) (fun q => ⟨fun _ => ?_, fun z => absurd rfl z⟩)
      · have hlt := cnt_lt (show i < W by omega) q
        have hn0 : 0 < cnt A B f W := by omega
        have hz : ¬ nI (cnt A B f W) = 0 := fun z => by rw [ni_e0 hn31] at z; omega
        have hci := cnt_le A B f i
        rw [pk_rem (by omega) hn0 hn31, pk_div (by omega) hn0 hn31]
        have e : cnt A B f i + 1 = cnt A B f (i + 1) := by rw [cnt, if_pos q]
        have hmod : h % cnt A B f W < cnt A B f W := Nat.mod_lt _ hn0
        have step : ∀ x, x = evV h (cnt A B f W) (cnt A B f i) → P_X9_puts (nI b) (nI f) (nI i) x first sl (fun s => P_X9_evenly_b62 walls first second (P_X9_evenly_L13 walls first second post (k + 1)) post (nI b) (nI f) (nI h) (nI (cnt A B f W)) (nI (cnt A B f i) + 1) (nI i) s) := by
          intro x hx
          refine puts_M hV hO hb hf (by omega) ?_
          unfold P_X9_evenly_b62
          rw [nI_1, nI_1, e, hx]
          exact ih (i + 1) _ (by omega) (setS_next hV (by omega) q hs) (fun j hj => by rw [pk_un (shp_out (by omega) hj)]; exact hfar j hj)
        unfold P_X9_evenly_b55
        refine ⟨hz, hz, fun r => step _ ?_, fun r => step _ ?_⟩
        · have r' : ¬ cnt A B f i < h % cnt A B f W := fun z => absurd r (nI_ge z (by omega))
          rw [evV, if_neg r', Int32.add_zero]; rfl
        · have r' : cnt A B f i < h % cnt A B f W := Nat.lt_of_not_le (fun z => r (nI_le z (by omega)))
          rw [evV, if_pos r', nI_1]
      · unfold P_X9_evenly_b62
        rw [nI_1]
        have e : cnt A B f (i + 1) = cnt A B f i := by rw [cnt, if_neg q]; rfl
        rw [← e]
        exact ih (i + 1) sl (by omega) (setS_skip q hs) hfar
  exact key W 0 slot (by omega) (setS_0 hS) (fun _ _ => rfl)
/-! days that go by, stands that are copied -/
def dayN (W : Nat) (kd A B : Nat → Nat) : Nat → St → St
  | 0, S => S
  | n + 1, S => dayS W kd A B 0 (dayN W kd A B n S)
def dayG (W : Nat) (kd A B : Nat → Nat) : Nat → St → Nat
  | 0, _ => 0
  | n + 1, S => dayG W kd A B n S + dayF W kd A B 0 (dayN W kd A B n S)
theorem dayN_LdV {F W : Nat} {kd A B : Nat → Nat} {S : St} (hV : CoV F W kd A B) (h : LdV F S) : ∀ n, LdV F (dayN W kd A B n S) := by
  intro n
  induction n with
  | zero => exact h
  | succ n ih => rw [dayN]; exact dayS_LdV hV ih
theorem dayG_le {W : Nat} {kd A B : Nat → Nat} {S : St} : ∀ n, dayG W kd A B n S ≤ n * W := by
  intro n
  induction n with
  | zero => exact Nat.zero_le _
  | succ n ih => rw [dayG, Nat.succ_mul]; have := dayF_le (W := W) (kd := kd) (A := A) (B := B) (idle := 0) (S := dayN W kd A B n S); omega
theorem CoV.ow {F W : Nat} {kd A B : Nat → Nat} (h : CoV F W kd A B) : OwV F W A B := ⟨h.1, h.2.1, h.2.2.1⟩
theorem CoC.ow {F W : Nat} {kd A B : Nat → Nat} {walls : Int32} {owners kinds : Nat → Int32} (h : CoC F W kd A B walls owners kinds) : OwC W A B walls owners := ⟨h.1, h.2.1⟩
theorem CoM.ow {F W : Nat} {kd A B : Nat → Nat} {walls : Int32} {first second sort : Nat → Int32} (h : CoM F W kd A B walls first second sort) : OwM W A B walls first second := ⟨h.1, h.2.1⟩
theorem StC_copy {F : Nat} (hF : F ≤ 6) {S : St} {days sick : Int32} {land places shares g1 g2 g3 : Nat → Int32} (h : StC F S days sick land places shares) : StC F S days sick (va_cpy land g1 0 0 6) (va_cpy places g2 0 0 9) (va_cpy shares g3 0 0 18) := by
  obtain ⟨h1, h2, h3, h4⟩ := h
  refine ⟨h1, h2, fun f hf => ?_, fun w hw => ⟨?_, ?_, ?_⟩⟩
  · rw [sb_cpy0 (by omega)]; exact h3 f hf
  · rw [sb_cpy0 (by omega)]; exact (h4 w hw).1
  · rw [sb_cpy0 (by omega)]; exact (h4 w hw).2.1
  · rw [sb_cpy0 (by omega)]; exact (h4 w hw).2.2
theorem standBehind_C {F W : Nat} {kd A B : Nat → Nat} {walls : Int32} {owners kinds : Nat → Int32} (hV : CoV F W kd A B) (hK : CoC F W kd A B walls owners kinds) {S : St} (hL : LdV F S) {days sick t1 t2 : Int32} {land places shares g1 g2 g3 g4 : Nat → Int32} (hS : StC F S days sick land places shares) {n : Nat} (hn : n < 2 ^ 31) {post : Int32 → Int32 → (Nat → Int32) → (Nat → Int32) → (Nat → Int32) → (Nat → Int32) → Prop}
    (hp : ∀ d s l p sh di, StC F (dayN W kd A B n S) d s l p sh → post d s l p sh di) : P_X2_standBehind (nI n) t1 t2 days sick g1 land g2 places g3 shares walls owners g4 kinds post := by
  unfold P_X2_standBehind P_X6_takeOver
  refine ⟨n + 1, ?_⟩
  have key : ∀ k i d s l p sh di, i + k = n → StC F (dayN W kd A B i S) d s l p sh → P_X2_standBehind_L11 days sick land places shares walls owners kinds post (k + 1) (nI n) (nI i) d s l p sh di := by
    intro k
    induction k with
    | zero =>
      intro i d s l p sh di hi hs
      rw [P_X2_standBehind_L11]
      have e : i = n := by omega
      subst e
      exact ⟨fun _ => hp d s l p sh di hs, fun q => absurd (nI_le (Nat.le_refl _) hn) q⟩
    | succ k ih =>
      intro i d s l p sh di hi hs
      rw [P_X2_standBehind_L11]
      refine ⟨fun q => absurd q (nI_ge (by omega) hn), fun _ => ?_⟩
      refine goDay_C hV hK (dayN_LdV hV hL i) hs (fun di' l' p' hs' => ?_)
      rw [nI_1]
      exact ih (i + 1) _ _ _ _ _ _ (by omega) hs'
  exact key n 0 _ _ _ _ _ _ (by omega) (StC_copy hV.1 hS)
theorem passesBy_M {F W b : Nat} {kd A B : Nat → Nat} {walls : Int32} {first second sort d1 d2 : Nat → Int32} (hV : CoV F W kd A B) (hK : CoM F W kd A B walls first second sort) (hb : b + 35 ≤ 420) {S : St} (h0 : LdV F S) {slot : Nat → Int32} (hS : StM F b S slot) {n : Nat} (hn : n < 2 ^ 31) {post : Int32 → (Nat → Int32) → (Nat → Int32) → (Nat → Int32) → Prop}
    (h : ∀ d1' d2' slot', StM F b (dayN W kd A B n S) slot' → (∀ j, (j < b ∨ b + 35 ≤ j) → slot' j = slot j) → post (nI (dayG W kd A B n S)) d1' d2' slot') : P_X9_passesBy (nI b) (nI n) walls 0 first d1 second d2 slot sort post := by
  unfold P_X9_passesBy
  refine ⟨n + 1, ?_⟩
  have key : ∀ k i d1 d2 sl, i + k = n → StM F b (dayN W kd A B i S) sl → (∀ j, (j < b ∨ b + 35 ≤ j) → sl j = slot j) → P_X9_passesBy_L5 walls 0 first second sort post (k + 1) (nI b) (nI n) (nI (dayG W kd A B i S)) (nI i) d1 d2 sl := by
    intro k
    induction k with
    | zero =>
      intro i d1 d2 sl hi hs hfar
      rw [P_X9_passesBy_L5]
      have e : i = n := by omega
      subst e
      exact ⟨fun _ => h d1 d2 sl hs hfar, fun q => absurd (nI_le (Nat.le_refl _) hn) q⟩
    | succ k ih =>
      intro i d1 d2 sl hi hs hfar
      rw [P_X9_passesBy_L5]
      refine ⟨fun q => absurd q (nI_ge (by omega) hn), fun _ => ?_⟩
      refine passes_M hV hK hb (dayN_LdV hV h0 i) hs (fun d1' d2' sl' hs' hfar' => ?_)
      rw [nI_1, na]
      exact ih (i + 1) d1' d2' sl' (by omega) hs' (fun j hj => (hfar' j hj).trans (hfar j hj))
  exact key n 0 d1 d2 slot (by omega) hS (fun _ _ => rfl)
theorem copies_M {a b : Nat} {slot : Nat → Int32} (ha : a + 35 ≤ 420) (hb : b + 35 ≤ 420) (hab : a + 35 ≤ b ∨ b + 35 ≤ a) {post : (Nat → Int32) → Prop} (hp : ∀ slot', (∀ k, k < 35 → slot' (b + k) = slot (a + k)) → (∀ j, (j < b ∨ b + 35 ≤ j) → slot' j = slot j) → post slot') : P_X9_copies (nI a) (nI b) slot post := by
  unfold P_X9_copies
  refine ⟨36, ?_⟩
  have key : ∀ k i sl, i + k = 35 → (∀ j, j < i → sl (b + j) = slot (a + j)) → (∀ j, (j < b ∨ b + i ≤ j) → sl j = slot j) → P_X9_copies_L2 post (k + 1) (nI a) (nI b) (nI i) sl := by
    intro k
    induction k with
    | zero =>
      intro i sl hi h1 h2
      rw [P_X9_copies_L2]
      have e : i = 35 := by omega
      subst e
      exact ⟨fun _ => hp sl h1 h2, fun q => absurd (by decide) q⟩
    | succ k ih =>
      intro i sl hi h1 h2
      rw [P_X9_copies_L2]
      refine ⟨fun q => absurd q (by rw [show (35 : Int32) = nI 35 from rfl]; exact nI_ge (by omega) (by omega)), fun _ => ?_⟩
      rw [na, na, nI_1, cl (by omega), cl (by omega)]
      refine ⟨ni_out (by omega) (by omega), ni_out (by omega) (by omega), ih (i + 1) _ (by omega) (fun j hj => ?_) (fun j hj => ?_)⟩
      · by_cases e : j = i
        · subst e; rw [pk_us]; exact h2 _ (by omega)
        · rw [pk_un (by omega)]; exact h1 j (by omega)
      · rw [pk_un (by omega)]; exact h2 j (by omega)
  exact key 35 0 slot (by omega) (fun j hj => by omega) (fun _ _ => rfl)
theorem StM_at {F a b : Nat} (hF : F ≤ 6) {S : St} {slot slot' : Nat → Int32} (h : StM F a S slot) (e : ∀ k, k < 35 → slot' (b + k) = slot (a + k)) : StM F b S slot' := by
  obtain ⟨h1, h2, h3, h4⟩ := h
  refine ⟨by rw [e 34 (by omega)]; exact h1, by rw [e 33 (by omega)]; exact h2, fun f hf => by rw [e f (by omega)]; exact h3 f hf, fun w hw => ⟨?_, ?_, ?_⟩⟩
  · rw [show b + 6 + w = b + (6 + w) by omega, e _ (by omega), show a + (6 + w) = a + 6 + w by omega]; exact (h4 w hw).1
  · rw [show b + 15 + w = b + (15 + w) by omega, e _ (by omega), show a + (15 + w) = a + 15 + w by omega]; exact (h4 w hw).2.1
  · rw [show b + 24 + w = b + (24 + w) by omega, e _ (by omega), show a + (24 + w) = a + 24 + w by omega]; exact (h4 w hw).2.2
