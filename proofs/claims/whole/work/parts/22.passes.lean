/-! the reference's day -/
theorem na (a b : Nat) : nI a + nI b = nI (a + b) := nI_add a b
theorem l15 : (15 : Int32) = nI 15 := rfl
theorem l24 : (24 : Int32) = nI 24 := rfl
theorem l33 : (33 : Int32) = nI 33 := rfl
theorem l34 : (34 : Int32) = nI 34 := rfl
theorem l6 : (6 : Int32) = nI 6 := rfl
theorem cl {n : Nat} (h : n < 2 ^ 31) : (nI n).toNatClampNeg = n := nI_clamp h
theorem ne_m4 {n : Nat} (h : n < 2 ^ 31) : ¬ nI n = -4 := by
  intro z
  have := congrArg Int32.toInt z
  rw [nI_toInt h, show (-4 : Int32) = -nI 4 from rfl, sb_negT (by omega)] at this
  omega
theorem has_M {post : Int32 → Prop} {s : Int32} {f : Nat} (h1 : bitP s f → post 1) (h0 : ¬ bitP s f → post 0) : P_X9_has s (nI f) post := ⟨h0, h1⟩
theorem shareOf_M {post : Int32 → Prop} {b f w : Nat} {first slot : Nat → Int32} (hb : b + 35 ≤ 420) (hw : w < 9) (h1 : first w = nI f → post (slot (b + 15 + w))) (h2 : ¬ first w = nI f → post (slot (b + 24 + w))) : P_X9_shareOf (nI b) (nI f) (nI w) first slot post := by
  unfold P_X9_shareOf P_X9_shareOf_b22
  rw [cl (by omega), l15, l24, na, na, na, na, cl (by omega), cl (by omega)]
  exact ⟨ni_out hw (by omega), fun q => ⟨ni_out (by omega) (by omega), h2 q⟩, fun q => ⟨ni_out (by omega) (by omega), h1 q⟩⟩
theorem shareOf_M2 {post : Int32 → Prop} {b f w : Nat} {first slot : Nat → Int32} {h : Int32} (hb : b + 35 ≤ 420) (hw : w < 9) (h1 : first w = nI f → slot (b + 15 + w) = h) (h2 : ¬ first w = nI f → slot (b + 24 + w) = h) (hp : post h) : P_X9_shareOf (nI b) (nI f) (nI w) first slot post := shareOf_M hb hw (fun q => by rw [h1 q]; exact hp) (fun q => by rw [h2 q]; exact hp)
theorem does_M {post : Int32 → Prop} {b f w k l : Nat} {first slot sort : Nat → Int32} {h : Int32} (hb : b + 35 ≤ 420) (hf : f < 6) (hw : w < 9) (hk : sort f = nI k) (hk5 : k < 5) (hl : slot (b + f) = nI l) (hl1 : l < 2 ^ 31) (hs1 : first w = nI f → slot (b + 15 + w) = h) (hs2 : ¬ first w = nI f → slot (b + 24 + w) = h) (hp : post (doP (slot (b + 34)) (slot (b + 33)) k f h l)) : P_X9_does (nI b) (nI f) (nI w) first slot sort post := by
  have hin : vp_in (nI f) 6 := ni_out hf (by omega)
  have ht : nI l < 10 ↔ ¬ 10 ≤ l := by rw [show (10 : Int32) = nI 10 from rfl, ni_lt hl1 (by omega)]; omega
  have ek : ∀ j : Nat, j < 2 ^ 31 → (nI k = nI j ↔ k = j) := fun j hj => nI_eq (by omega) hj
  unfold P_X9_does
  refine shareOf_M2 hb hw hs1 hs2 ?_
  rw [l33, na, na, cl (by omega), cl (by omega), cl (by omega), hk, hl]
  unfold P_X9_isFeast P_X9_larger
  rw [l34, na, cl (by omega)]
  rw [show (nI k = 1) = (nI k = nI 1) from rfl, show (nI k = 2) = (nI k = nI 2) from rfl, show (nI k = 3) = (nI k = nI 3) from rfl, show (nI k = 4) = (nI k = nI 4) from rfl, ek 1 (by omega), ek 2 (by omega), ek 3 (by omega), ek 4 (by omega), ht]
  unfold doP at hp
  refine ⟨ni_out (by omega) (by omega), has_M (fun hbit => ?_) (fun hbit => ?_)⟩
  · refine ⟨ni_out (by omega) (by omega), by decide, fun hday => ?_, fun hday => ?_⟩
    · rw [if_neg hday, if_pos hbit] at hp
      refine ⟨fun z => absurd rfl z, fun _ => ⟨hin, fun q1 => ⟨hin, fun q2 => ⟨hin, fun q3 => ⟨fun z => absurd z (by decide), fun _ => ?_⟩, fun q3 => ⟨fun z => absurd z (by decide), fun _ => ?_⟩⟩, fun q2 => ⟨fun z => absurd z (by decide), fun _ => ?_⟩⟩, fun q1 => ?_⟩⟩
      · rw [if_neg q2, if_neg q3] at hp; exact hp
      · rw [if_neg q2, if_pos q3] at hp; exact hp
      · rw [if_pos q2] at hp; exact hp
      · rw [if_neg (by omega), if_neg (by omega)] at hp; exact hp
    · rw [if_pos hday] at hp
      exact ⟨fun _ => hp, fun z => absurd z (by decide)⟩
  · refine ⟨ni_out (by omega) (by omega), by decide, fun hday => ?_, fun hday => ?_⟩
    · rw [if_neg hday, if_neg hbit] at hp
      refine ⟨fun z => absurd rfl z, fun _ => ⟨hin, fun q1 => ⟨hin, fun q2 => ⟨hin, fun q3 => ⟨fun _ => ⟨hin, fun q4 => ?_, fun q4 => ⟨ni_out (by omega) (by omega), fun q5 => ?_, fun q5 => ⟨fun q6 => ?_, fun q6 => ?_⟩⟩⟩, fun z => absurd rfl z⟩, fun q3 => ⟨fun _ => ?_, fun z => absurd rfl z⟩⟩, fun q2 => ⟨fun _ => ?_, fun z => absurd rfl z⟩⟩, fun q1 => ?_⟩⟩
      · rw [if_neg q1, if_neg q3, if_neg (by omega)] at hp; exact hp
      · rw [if_neg q1, if_neg q3, if_neg (by omega)] at hp; exact hp
      · by_cases q7 : h < 2
        · rw [if_neg q1, if_neg q3, if_pos ⟨q4, by omega, q7⟩] at hp; exact hp
        · rw [if_neg q1, if_neg q3, if_neg (fun z => q7 z.2.2)] at hp
          have : h = 2 := Int32.le_antisymm q6 (Int32.not_lt.mp q7)
          rw [this] at hp; exact hp
      · rw [if_neg q1, if_neg q3, if_neg (fun z => q6 (Int32.le_of_lt z.2.2))] at hp; exact hp
      · rw [if_neg q1, if_pos q3] at hp; exact hp
      · rw [if_neg q1, if_neg (by omega), if_neg (by omega)] at hp; exact hp
      · rw [if_pos q1] at hp; exact hp
    · rw [if_pos hday] at hp
      exact ⟨fun _ => hp, fun z => absurd z (by decide)⟩
theorem goes_M {post : Int32 → Prop} {b w : Nat} {x y : Int32} {A B : Nat → Nat} {ld : Nat → Nat} {F : Nat} {first second slot : Nat → Int32} (hb : b + 35 ≤ 420) (hw : w < 9) (ho : first w = nI (A w) ∧ second w = nI (B w)) (hA : A w < F) (hB : B w < F) (hF : F ≤ 6) (hl : ∀ f, f < F → slot (b + f) = nI (ld f)) (hbd : ∀ f, f < F → ld f < 2 ^ 31)
    (h1 : x = y → post (-4)) (h2 : ¬ x = y → x < y → ld (A w) = 0 → post (-4)) (h3 : ¬ x = y → x < y → ¬ ld (A w) = 0 → post (nI (A w))) (h4 : ¬ x = y → ¬ x < y → ld (B w) = 0 → post (-4)) (h5 : ¬ x = y → ¬ x < y → ¬ ld (B w) = 0 → post (nI (B w))) : P_X9_goes (nI b) (nI w) x y first slot second post := by
  unfold P_X9_goes P_X9_goes_b21 P_X9_goes_b41
  rw [cl (by omega), ho.1, ho.2, na, na, cl (by omega), cl (by omega), hl _ hA, hl _ hB, ni_e0 (hbd _ hA), ni_e0 (hbd _ hB)]
  refine ⟨fun hle => ⟨ni_out (by omega) (by omega), fun q => h1 q, fun q => ⟨ni_out (by omega) (by omega), fun r => ?_, fun r => ?_⟩⟩, fun hle => ⟨ni_out (by omega) (by omega), fun q => h1 q, fun q => ⟨ni_out (by omega) (by omega), fun r => ?_, fun r => ?_⟩⟩⟩
  · exact h5 q (Int32.not_lt.mpr hle) r
  · exact h4 q (Int32.not_lt.mpr hle) r
  · exact h3 q (Int32.not_le.mp hle) r
  · exact h2 q (Int32.not_le.mp hle) r
theorem StM_go {F b : Nat} {d s : Int32} {ld : Nat → Nat} {pl sA sB slot : Nat → Int32} {a c w : Nat} {v : Int32} (h : StM F b (d, s, ld, pl, sA, sB) slot) (hF : F ≤ 6) (ha : a < F) (hc : c < F) (hac : a ≠ c) (h0 : ¬ ld a = 0) (hw : w < 9) :
    StM F b (d, s, mv ld a c, va_up pl w (pl w + v), sA, sB) (upd (upd (upd slot (b + a) (slot (b + a) - 1)) (b + c) (upd slot (b + a) (slot (b + a) - 1) (b + c) + 1)) (b + 6 + w) (upd (upd slot (b + a) (slot (b + a) - 1)) (b + c) (upd slot (b + a) (slot (b + a) - 1) (b + c) + 1) (b + 6 + w) + v)) := by
  obtain ⟨h1, h2, h3, h4⟩ := h
  dsimp only at h1 h2 h3 h4
  refine ⟨?_, ?_, fun f hf => ?_, fun w' hw' => ⟨?_, ?_, ?_⟩⟩
  · rw [pk_un (by omega), pk_un (by omega), pk_un (by omega)]; exact h1
  · rw [pk_un (by omega), pk_un (by omega), pk_un (by omega)]; exact h2
  · rw [pk_un (by omega)]
    dsimp only
    simp only [mv, va_up]
    by_cases e1 : f = c
    · subst e1; rw [if_pos rfl, pk_us, pk_un (by omega), h3 _ hf, nI_1]
    · rw [pk_un (by omega), if_neg e1]
      by_cases e2 : f = a
      · subst e2; rw [if_pos rfl, pk_us, h3 _ hf, ni_m1 h0]
      · rw [pk_un (by omega), if_neg e2]; exact h3 f hf
  · dsimp only
    simp only [va_up]
    by_cases e : w' = w
    · subst e; rw [if_pos rfl, pk_us, pk_un (by omega), pk_un (by omega), (h4 _ hw).1]
    · rw [pk_un (by omega), pk_un (by omega), pk_un (by omega), if_neg e]; exact (h4 _ hw').1
  · rw [pk_un (by omega), pk_un (by omega), pk_un (by omega)]; exact (h4 _ hw').2.1
  · rw [pk_un (by omega), pk_un (by omega), pk_un (by omega)]; exact (h4 _ hw').2.2
/-- the reference's second loop -/
theorem passes2_M {F W b : Nat} {kd A B : Nat → Nat} {walls idlers : Int32} {first second sort : Nat → Int32} (hV : CoV F W kd A B) (hK : CoM F W kd A B walls first second sort) (hb : b + 35 ≤ 420) {dA dB : Nat → Int32} {S : St} (h0 : LdV F S) {d1 d2 : Nat → Int32} (hd : ∀ w, w < W → d1 w = dA w ∧ d2 w = dB w) {slot0 : Nat → Int32} {post : Int32 → (Nat → Int32) → (Nat → Int32) → (Nat → Int32) → Prop}
    (h : ∀ slot', StM F b (S.1 + 1, S.2.1, (runW A B dA dB W (S.2.2.1, S.2.2.2.1, 0)).1, (runW A B dA dB W (S.2.2.1, S.2.2.2.1, 0)).2.1, S.2.2.2.2.1, S.2.2.2.2.2) slot' → (∀ j, (j < b ∨ b + 35 ≤ j) → slot' j = slot0 j) → post (nI (runW A B dA dB W (S.2.2.1, S.2.2.2.1, 0)).2.2) d1 d2 slot') :
    ∀ k w slot, w + k = W → StM F b (S.1, S.2.1, (runW A B dA dB w (S.2.2.1, S.2.2.2.1, 0)).1, (runW A B dA dB w (S.2.2.1, S.2.2.2.1, 0)).2.1, S.2.2.2.2.1, S.2.2.2.2.2) slot → (∀ j, (j < b ∨ b + 35 ≤ j) → slot j = slot0 j) → P_X9_passes_L96 walls idlers first second sort post (k + 1) (nI b) (nI (runW A B dA dB w (S.2.2.1, S.2.2.2.1, 0)).2.2) (nI w) d1 d2 slot := by
  obtain ⟨hF, hW, hAB, hkd⟩ := hV
  obtain ⟨rfl, ho, hk⟩ := hK
  have h0' : sumN S.2.2.1 F ≤ 1000 := h0
  intro k
  induction k with
  | zero =>
    intro w slot hw hs hfar
    have e : w = W := by omega
    subst e
    rw [P_X9_passes_L96, l34, na, cl (by omega)]
    refine ⟨fun _ => ⟨ni_out (by omega) (by omega), ni_out (by omega) (by omega), h _ ?_ ?_⟩, fun q => absurd (nI_le (Nat.le_refl _) (by omega)) q⟩
    · obtain ⟨h1, h2, h3, h4⟩ := hs
      refine ⟨?_, ?_, fun f hf => ?_, fun w' hw' => ⟨?_, ?_, ?_⟩⟩
      · rw [pk_us, h1]
      · rw [pk_un (by omega)]; exact h2
      · rw [pk_un (by omega)]; exact h3 f hf
      · rw [pk_un (by omega)]; exact (h4 w' hw').1
      · rw [pk_un (by omega)]; exact (h4 w' hw').2.1
      · rw [pk_un (by omega)]; exact (h4 w' hw').2.2
    · intro j hj
      rw [pk_un (by omega)]; exact hfar j hj
  | succ k ih =>
    intro w slot hw hs hfar
    obtain ⟨hA, hB, hne⟩ := hAB w (by omega)
    obtain ⟨ho1, ho2⟩ := ho w (by omega)
    have hsum : sumN (runW A B dA dB w (S.2.2.1, S.2.2.2.1, 0)).1 F ≤ 1000 := by rw [runW_sum hAB _ w (by omega)]; exact h0'
    have hbd : ∀ f, f < F → (runW A B dA dB w (S.2.2.1, S.2.2.2.1, 0)).1 f ≤ 1000 := fun f hf => Nat.le_trans (le_sumN hf) hsum
    rw [P_X9_passes_L96]
    refine ⟨fun q => absurd q (nI_ge (by omega) (by omega)), fun _ => ⟨ni_out (by omega) (by omega), ni_out (by omega) (by omega), ?_⟩⟩
    rw [cl (by omega), (hd w (by omega)).1, (hd w (by omega)).2, ho1, ho2]
    have rw1 : ∀ s, stepW A B dA dB w (runW A B dA dB w (S.2.2.1, S.2.2.2.1, 0)) = s → runW A B dA dB (w + 1) (S.2.2.1, S.2.2.2.1, 0) = s := fun s e => by rw [runW]; exact e
    have stay : runW A B dA dB (w + 1) (S.2.2.1, S.2.2.2.1, 0) = runW A B dA dB w (S.2.2.1, S.2.2.2.1, 0) → P_X9_passes_b206 (nI W) idlers first second sort (P_X9_passes_L96 (nI W) idlers first second sort post (k + 1)) post (nI b) (nI (runW A B dA dB w (S.2.2.1, S.2.2.2.1, 0)).2.2) (nI w) d1 d2 slot := by
      intro e
      unfold P_X9_passes_b206
      rw [nI_1, ← e]
      exact ih (w + 1) slot (by omega) (by rw [e]; exact hs) hfar
    have e4 : (-4 : Int32) < 0 := by decide
    have go : ∀ (a c : Nat) (v : Int32), a < F → c < F → a ≠ c → ¬ (runW A B dA dB w (S.2.2.1, S.2.2.2.1, 0)).1 a = 0 → runW A B dA dB (w + 1) (S.2.2.1, S.2.2.2.1, 0) = (mv (runW A B dA dB w (S.2.2.1, S.2.2.2.1, 0)).1 a c, va_up (runW A B dA dB w (S.2.2.1, S.2.2.2.1, 0)).2.1 w ((runW A B dA dB w (S.2.2.1, S.2.2.2.1, 0)).2.1 w + v), (runW A B dA dB w (S.2.2.1, S.2.2.2.1, 0)).2.2 + 1) →
        P_X9_passes_b201 (nI W) idlers first second sort (P_X9_passes_L96 (nI W) idlers first second sort post (k + 1)) post (nI b) (nI (runW A B dA dB w (S.2.2.1, S.2.2.2.1, 0)).2.2) (nI w) (nI (b + 6 + w)) (upd (upd slot (b + a) (slot (b + a) - 1)) (b + c) (upd slot (b + a) (slot (b + a) - 1) (b + c) + 1) (b + 6 + w)) v d1 d2 (upd (upd slot (b + a) (slot (b + a) - 1)) (b + c) (upd slot (b + a) (slot (b + a) - 1) (b + c) + 1)) := by
      intro a c v ha hc hac hz e
      unfold P_X9_passes_b201
      refine ⟨ni_out (by omega) (by omega), ?_⟩
      unfold P_X9_passes_b206
      rw [nI_1, nI_1, cl (by omega)]
      have e2 : (runW A B dA dB w (S.2.2.1, S.2.2.2.1, 0)).2.2 + 1 = (runW A B dA dB (w + 1) (S.2.2.1, S.2.2.2.1, 0)).2.2 := by rw [e]
      rw [e2]
      refine ih (w + 1) _ (by omega) ?_ (fun j hj => ?_)
      · rw [e]; exact StM_go hs hF ha hc hac hz (by omega)
      · rw [pk_un (by omega), pk_un (by omega), pk_un (by omega)]
        exact hfar j hj
    refine goes_M (ld := (runW A B dA dB w (S.2.2.1, S.2.2.2.1, 0)).1) (F := F) (A := A) (B := B) hb (by omega) ⟨ho1, ho2⟩ hA hB hF hs.2.2.1 (fun f hf => by have := hbd f hf; omega) (fun q => ?_) (fun q r t => ?_) (fun q r t => ?_) (fun q r t => ?_) (fun q r t => ?_)
    · exact ⟨fun _ => stay (rw1 _ (by rw [stepW, if_pos q])), fun z => absurd e4 z⟩
    · exact ⟨fun _ => stay (rw1 _ (by rw [stepW, if_neg q, if_pos r, if_pos t])), fun z => absurd e4 z⟩
    · refine ⟨fun z => absurd z (nI_pos (by omega)), fun _ => ?_⟩
      rw [na, na, pk_sub (by omega), show A w + B w - A w = B w by omega, na, l6, na, na, cl (by omega), cl (by omega), cl (by omega)]
      refine ⟨ni_out (by omega) (by omega), ni_out (by omega) (by omega), ni_out (by omega) (by omega), ni_out (by omega) (by omega), ni_out (by omega) (by omega), ni_out (by omega) (by omega), ni_out (by omega) (by omega), ni_out (by omega) (by omega), fun _ => ?_, fun z => absurd ((nI_eq (by omega) (by omega)).mp z) hne⟩
      exact go _ _ _ hA hB hne t (rw1 _ (by rw [stepW, if_neg q, if_pos r, if_neg t]))
    · exact ⟨fun _ => stay (rw1 _ (by rw [stepW, if_neg q, if_neg r, if_pos t])), fun z => absurd e4 z⟩
    · refine ⟨fun z => absurd z (nI_pos (by omega)), fun _ => ?_⟩
      rw [na, na, pk_sub (by omega), show A w + B w - B w = A w by omega, na, l6, na, na, cl (by omega), cl (by omega), cl (by omega)]
      refine ⟨ni_out (by omega) (by omega), ni_out (by omega) (by omega), ni_out (by omega) (by omega), ni_out (by omega) (by omega), ni_out (by omega) (by omega), ni_out (by omega) (by omega), ni_out (by omega) (by omega), ni_out (by omega) (by omega), fun z => absurd rfl z, fun _ => ?_⟩
      exact go _ _ _ hB hA (Ne.symm hne) t (rw1 _ (by rw [stepW, if_neg q, if_neg r, if_neg t]))
/-- the reference's first loop -/
theorem passes1_M {F W b : Nat} {kd A B : Nat → Nat} {walls idlers : Int32} {first second sort : Nat → Int32} (hV : CoV F W kd A B) (hK : CoM F W kd A B walls first second sort) (hb : b + 35 ≤ 420) {S : St} (h0 : LdV F S) {slot : Nat → Int32} (hS : StM F b S slot) {post : Int32 → (Nat → Int32) → (Nat → Int32) → (Nat → Int32) → Prop}
    (h : ∀ d1 d2, (∀ w, w < W → d1 w = didP kd A idlers S S.2.2.2.2.1 w ∧ d2 w = didP kd B idlers S S.2.2.2.2.2 w) → ∃ n, P_X9_passes_L96 walls idlers first second sort post n (nI b) 0 0 d1 d2 slot) :
    ∀ k w d1 d2, w + k = W → (∀ w', w' < w → d1 w' = didP kd A idlers S S.2.2.2.2.1 w' ∧ d2 w' = didP kd B idlers S S.2.2.2.2.2 w') → P_X9_passes_L2 walls idlers first second sort post (k + 1) (nI b) (nI w) d1 d2 slot := by
  obtain ⟨hF, hW, hAB, hkd⟩ := hV
  obtain ⟨rfl, ho, hk⟩ := hK
  obtain ⟨g1, g2, g3, g4⟩ := hS
  intro k
  induction k with
  | zero =>
    intro w d1 d2 hw hd
    have e : w = W := by omega
    subst e
    rw [P_X9_passes_L2]
    exact ⟨fun _ => h d1 d2 hd, fun q => absurd (nI_le (Nat.le_refl _) (by omega)) q⟩
  | succ k ih =>
    intro w d1 d2 hw hd
    obtain ⟨hA, hB, hne⟩ := hAB w (by omega)
    obtain ⟨ho1, ho2⟩ := ho w (by omega)
    have hne' : ¬ nI (A w) = nI (B w) := fun z => hne ((nI_eq (by omega) (by omega)).mp z)
    rw [P_X9_passes_L2]
    refine ⟨fun q => absurd q (nI_ge (by omega) (by omega)), fun _ => ⟨ni_out (by omega) (by omega), ?_⟩⟩
    rw [cl (by omega), ho1]
    have two : ∀ x y, x = didP kd A idlers S S.2.2.2.2.1 w → y = didP kd B idlers S S.2.2.2.2.2 w → P_X9_passes_b85 (nI W) idlers first second sort (P_X9_passes_L2 (nI W) idlers first second sort post (k + 1)) post (nI b) (nI w) (nI w) y (upd d1 w x) d2 slot := by
      intro x y hx hy
      unfold P_X9_passes_b85
      refine ⟨ni_out (by omega) (by omega), ?_⟩
      rw [nI_1, cl (by omega)]
      refine ih (w + 1) _ _ (by omega) (fun w' hw' => ?_)
      by_cases e : w' = w
      · subst e; rw [pk_us, pk_us]; exact ⟨hx, hy⟩
      · rw [pk_un e, pk_un e]; exact hd w' (by omega)
    have one : ∀ x, x = didP kd A idlers S S.2.2.2.2.1 w → P_X9_passes_b47 (nI W) idlers first second sort (P_X9_passes_L2 (nI W) idlers first second sort post (k + 1)) post (nI b) (nI w) (nI w) x d1 d2 slot := by
      intro x hx
      unfold P_X9_passes_b47
      refine ⟨ni_out (by omega) (by omega), ni_out (by omega) (by omega), ?_⟩
      rw [cl (by omega), ho2]
      refine has_M (fun q => ?_) (fun q => ?_)
      · exact ⟨fun z => absurd z (by decide), fun _ => two _ _ hx (by rw [didP, if_pos q])⟩
      · refine ⟨fun _ => ⟨ni_out (by omega) (by omega), ?_⟩, fun z => absurd rfl z⟩
        refine does_M hb (by omega) (by omega) (hk _ hB) (hkd _ hB) (g3 _ hB) (by have := LdV_lt h0 hB; omega) (h := S.2.2.2.2.2 w) (fun z => absurd (ho1.symm.trans z) hne') (fun _ => (g4 w (by omega)).2.2) ?_
        exact two _ _ hx (by rw [didP, if_neg q, g1, g2])
    refine has_M (fun q => ?_) (fun q => ?_)
    · exact ⟨fun z => absurd z (by decide), fun _ => one _ (by rw [didP, if_pos q])⟩
    · refine ⟨fun _ => ⟨ni_out (by omega) (by omega), ?_⟩, fun z => absurd rfl z⟩
      refine does_M hb (by omega) (by omega) (hk _ hA) (hkd _ hA) (g3 _ hA) (by have := LdV_lt h0 hA; omega) (h := S.2.2.2.2.1 w) (fun _ => (g4 w (by omega)).2.1) (fun z => absurd ho1 z) ?_
      exact one _ (by rw [didP, if_neg q, g1, g2])
theorem passes_M {F W b : Nat} {kd A B : Nat → Nat} {walls idlers : Int32} {first second sort d1 d2 : Nat → Int32} (hV : CoV F W kd A B) (hK : CoM F W kd A B walls first second sort) (hb : b + 35 ≤ 420) {S : St} (h0 : LdV F S) {slot : Nat → Int32} (hS : StM F b S slot) {post : Int32 → (Nat → Int32) → (Nat → Int32) → (Nat → Int32) → Prop}
    (h : ∀ d1' d2' slot', StM F b (dayS W kd A B idlers S) slot' → (∀ j, (j < b ∨ b + 35 ≤ j) → slot' j = slot j) → post (nI (dayF W kd A B idlers S)) d1' d2' slot') : P_X9_passes (nI b) walls idlers first d1 second d2 slot sort post := by
  unfold P_X9_passes
  refine ⟨W + 1, ?_⟩
  refine passes1_M hV hK hb h0 hS (fun d1' d2' hd => ⟨W + 1, ?_⟩) W 0 d1 d2 (by omega) (fun w hw => by omega)
  exact passes2_M hV hK hb h0 hd (slot0 := slot) (fun slot' h1 h2 => h d1' d2' slot' h1 h2) W 0 slot (by omega) hS (fun _ _ => rfl)
