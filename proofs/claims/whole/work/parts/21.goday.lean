/-! the class's day -/
theorem upd_va (f : Nat → Int32) (k : Nat) (x : Int32) : upd f k x = va_up f k x := rfl
theorem runW_far {A B : Nat → Nat} {dA dB : Nat → Int32} (s : (Nat → Nat) × (Nat → Int32) × Nat) : ∀ n w, n ≤ w → (runW A B dA dB n s).2.1 w = s.2.1 w := by
  intro n
  induction n with
  | zero => intro w _; rfl
  | succ n ih =>
    intro w hw
    rw [runW]
    have e := ih w (by omega)
    unfold stepW
    split
    · exact e
    · split
      · split
        · exact e
        · show va_up _ n _ w = _; simp only [va_up]; rw [if_neg (by omega)]; exact e
      · split
        · exact e
        · show va_up _ n _ w = _; simp only [va_up]; rw [if_neg (by omega)]; exact e
theorem losing_C {post : Int32 → Prop} {w : Nat} {x y : Int32} {A B : Nat → Nat} {ld : Nat → Nat} {F : Nat} {owners land : Nat → Int32} (hw : w < 9) (ho : owners (2 * w) = nI (A w) ∧ owners (2 * w + 1) = nI (B w)) (hA : A w < F) (hB : B w < F) (hF : F ≤ 6) (hl : ∀ f, f < F → land f = nI (ld f)) (hb : ∀ f, f < F → ld f < 2 ^ 31)
    (h1 : x = y → post (-4)) (h2 : ¬ x = y → x < y → ld (A w) = 0 → post (-4)) (h3 : ¬ x = y → x < y → ¬ ld (A w) = 0 → post (nI (2 * w))) (h4 : ¬ x = y → ¬ x < y → ld (B w) = 0 → post (-4)) (h5 : ¬ x = y → ¬ x < y → ¬ ld (B w) = 0 → post (nI (2 * w + 1))) : P_X6_losingSide (nI w) x y owners land post := by
  have c1 : (nI (2 * w)).toNatClampNeg = 2 * w := nI_clamp (by omega)
  have c2 : (nI (2 * w + 1)).toNatClampNeg = 2 * w + 1 := nI_clamp (by omega)
  have c3 : (nI (A w)).toNatClampNeg = A w := nI_clamp (by omega)
  have c4 : (nI (B w)).toNatClampNeg = B w := nI_clamp (by omega)
  unfold P_X6_losingSide P_X6_losingSide_b26
  rw [ni2s, ni2]
  rw [c1, c2, ho.1, ho.2, c3, c4, hl _ hA, hl _ hB, ni_le0 (hb _ hA), ni_le0 (hb _ hB)]
  refine ⟨fun hxy => ⟨fun hle => ⟨ni_out (by omega) (by omega), ni_out (by omega) (by omega), fun q => ?_, fun q => ?_⟩, fun hle => ⟨ni_out (by omega) (by omega), ni_out (by omega) (by omega), fun q => ?_, fun q => ?_⟩⟩, fun hxy => h1 hxy⟩
  · exact h4 hxy (Int32.not_lt.mpr hle) q
  · exact h5 hxy (Int32.not_lt.mpr hle) q
  · exact h2 hxy (Int32.not_le.mp hle) q
  · exact h3 hxy (Int32.not_le.mp hle) q
/-- the class's second loop: the walls go -/
theorem goDay2_C {F W : Nat} {kd A B : Nat → Nat} {walls sick : Int32} {owners kinds shares : Nat → Int32} (hV : CoV F W kd A B) (hK : CoC F W kd A B walls owners kinds) {dA dB : Nat → Int32} {s0 : (Nat → Nat) × (Nat → Int32) × Nat} (h0 : sumN s0.1 F ≤ 1000) {did : Nat → Int32} (hd : ∀ w, w < W → did (2 * w) = dA w ∧ did (2 * w + 1) = dB w) {days : Int32} {post : Int32 → Int32 → (Nat → Int32) → (Nat → Int32) → (Nat → Int32) → Prop}
    (h : ∀ land places, (∀ f, f < F → land f = nI ((runW A B dA dB W s0).1 f)) → (∀ w, w < 9 → places w = (runW A B dA dB W s0).2.1 w) → post (nI (runW A B dA dB W s0).2.2) days did land places) :
    ∀ k w land places, w + k = W → (∀ f, f < F → land f = nI ((runW A B dA dB w s0).1 f)) → (∀ w', w' < 9 → places w' = (runW A B dA dB w s0).2.1 w') → P_X6_goDay_L73 walls owners sick shares kinds post (k + 1) (nI (runW A B dA dB w s0).2.2) (nI w) days did land places := by
  obtain ⟨hF, hW, hAB, hkd⟩ := hV
  obtain ⟨rfl, ho, hk⟩ := hK
  intro k
  induction k with
  | zero =>
    intro w land places hw hl hp
    have e : w = W := by omega
    subst e
    rw [P_X6_goDay_L73]
    exact ⟨fun _ => h land places hl hp, fun q => absurd (nI_le (Nat.le_refl _) (by omega)) q⟩
  | succ k ih =>
    intro w land places hw hl hp
    obtain ⟨hA, hB, hne⟩ := hAB w (by omega)
    obtain ⟨ho1, ho2⟩ := ho w (by omega)
    have hs : sumN (runW A B dA dB w s0).1 F ≤ 1000 := by rw [runW_sum hAB s0 w (by omega)]; exact h0
    have hb : ∀ f, f < F → (runW A B dA dB w s0).1 f ≤ 1000 := fun f hf => Nat.le_trans (le_sumN hf) hs
    have c1 : (nI (2 * w)).toNatClampNeg = 2 * w := nI_clamp (by omega)
    have c2 : (nI (2 * w + 1)).toNatClampNeg = 2 * w + 1 := nI_clamp (by omega)
    have c3 : (nI (A w)).toNatClampNeg = A w := nI_clamp (by omega)
    have c4 : (nI (B w)).toNatClampNeg = B w := nI_clamp (by omega)
    have c5 : (nI w).toNatClampNeg = w := nI_clamp (by omega)
    rw [P_X6_goDay_L73]
    refine ⟨fun q => absurd q (nI_ge (by omega) (by omega)), fun _ => ?_⟩
    rw [ni2s, ni2]
    refine ⟨ni_out (by omega) (by omega), ni_out (by omega) (by omega), ?_⟩
    rw [c1, c2, (hd w (by omega)).1, (hd w (by omega)).2]
    have stay : runW A B dA dB (w + 1) s0 = runW A B dA dB w s0 → P_X6_goDay_b179 (nI W) owners sick shares kinds (P_X6_goDay_L73 (nI W) owners sick shares kinds post (k + 1)) post (nI (runW A B dA dB w s0).2.2) (nI w) days did land places := by
      intro e
      unfold P_X6_goDay_b179
      rw [nI_1, ← e]
      exact ih (w + 1) land places (by omega) (by rw [e]; exact hl) (by rw [e]; exact hp)
    have rw1 : ∀ s, stepW A B dA dB w (runW A B dA dB w s0) = s → runW A B dA dB (w + 1) s0 = s := fun s e => by rw [runW]; exact e
    refine losing_C (ld := (runW A B dA dB w s0).1) (F := F) (by omega) ⟨ho1, ho2⟩ hA hB hF hl (fun f hf => by have := hb f hf; omega) (fun q => ?_) (fun q r t => ?_) (fun q r t => ?_) (fun q r t => ?_) (fun q r t => ?_)
    · exact ⟨fun _ => stay (rw1 _ (by rw [stepW, if_pos q])), fun z => absurd rfl z⟩
    · exact ⟨fun _ => stay (rw1 _ (by rw [stepW, if_neg q, if_pos r, if_pos t])), fun z => absurd rfl z⟩
    · have e := rw1 _ (by rw [stepW, if_neg q, if_pos r, if_neg t])
      have hx := (ni_xor1 w (by omega)).1
      refine ⟨fun z => absurd z (by rw [show (-4 : Int32) = -nI 4 from rfl]; intro z; have := congrArg Int32.toInt z; rw [nI_toInt (by omega), sb_negT (by omega)] at this; omega), fun _ => ?_⟩
      rw [hx, c1, c2, ho1, ho2, c3, c4, c5]
      refine ⟨ni_out (by omega) (by omega), ni_out (by omega) (by omega), ni_out (by omega) (by omega), ni_out (by omega) (by omega), ni_out (by omega) (by omega), ni_out (by omega) (by omega), ni_out (by omega) (by omega), fun z => absurd rfl z, fun _ => ?_⟩
      unfold P_X6_goDay_b174
      refine ⟨ni_out (by omega) (by omega), ?_⟩
      unfold P_X6_goDay_b179
      rw [nI_1, nI_1, c5]
      have e2 : (runW A B dA dB w s0).2.2 + 1 = (runW A B dA dB (w + 1) s0).2.2 := by rw [e]
      rw [e2]
      refine ih (w + 1) _ _ (by omega) (fun f hf => ?_) (fun w' hw' => ?_)
      · rw [e]
        simp only [upd_va, va_up, mv]
        by_cases h1 : f = B w
        · subst h1
          rw [if_pos rfl, if_pos rfl, if_neg (Ne.symm hne), hl _ hB, nI_1]
        · rw [if_neg h1, if_neg h1]
          by_cases h2 : f = A w
          · subst h2; rw [if_pos rfl, if_pos rfl, hl _ hA, ni_m1 t]
          · rw [if_neg h2, if_neg h2, hl _ hf]
      · rw [e]
        simp only [upd_va, va_up]
        split
        · rw [hp w (by omega)]
        · exact hp w' hw'
    · exact ⟨fun _ => stay (rw1 _ (by rw [stepW, if_neg q, if_neg r, if_pos t])), fun z => absurd rfl z⟩
    · have e := rw1 _ (by rw [stepW, if_neg q, if_neg r, if_neg t])
      have hx := (ni_xor1 w (by omega)).2
      refine ⟨fun z => absurd z (by rw [show (-4 : Int32) = -nI 4 from rfl]; intro z; have := congrArg Int32.toInt z; rw [nI_toInt (by omega), sb_negT (by omega)] at this; omega), fun _ => ?_⟩
      rw [hx, c1, c2, ho1, ho2, c3, c4, c5]
      refine ⟨ni_out (by omega) (by omega), ni_out (by omega) (by omega), ni_out (by omega) (by omega), ni_out (by omega) (by omega), ni_out (by omega) (by omega), ni_out (by omega) (by omega), ni_out (by omega) (by omega), fun _ => ?_, fun z => ?_⟩
      · unfold P_X6_goDay_b174
        refine ⟨ni_out (by omega) (by omega), ?_⟩
        unfold P_X6_goDay_b179
        rw [nI_1, nI_1, c5]
        have e2 : (runW A B dA dB w s0).2.2 + 1 = (runW A B dA dB (w + 1) s0).2.2 := by rw [e]
        rw [e2]
        refine ih (w + 1) _ _ (by omega) (fun f hf => ?_) (fun w' hw' => ?_)
        · rw [e]
          simp only [upd_va, va_up, mv]
          by_cases h1 : f = A w
          · subst h1
            rw [if_pos rfl, if_pos rfl, if_neg hne, hl _ hA, nI_1]
          · rw [if_neg h1, if_neg h1]
            by_cases h2 : f = B w
            · subst h2; rw [if_pos rfl, if_pos rfl, hl _ hB, ni_m1 t]
            · rw [if_neg h2, if_neg h2, hl _ hf]
        · rw [e]
          simp only [upd_va, va_up]
          split
          · rw [hp w (by omega)]
          · exact hp w' hw'
      · exact absurd ((nI_eq (by omega) (by omega)).mp z) (by omega)
/-- the class's first loop: what all do -/
theorem goDay1_C {F W : Nat} {kd A B : Nat → Nat} {walls : Int32} {owners kinds : Nat → Int32} (hV : CoV F W kd A B) (hK : CoC F W kd A B walls owners kinds) {S : St} (hL : LdV F S) {days sick : Int32} {land places shares : Nat → Int32} (hS : StC F S days sick land places shares) {idle : Int32} {post : Int32 → Int32 → (Nat → Int32) → (Nat → Int32) → (Nat → Int32) → Prop}
    (h : ∀ did, (∀ w, w < W → did (2 * w) = didP kd A idle S S.2.2.2.2.1 w ∧ did (2 * w + 1) = didP kd B idle S S.2.2.2.2.2 w) → ∃ n, P_X6_goDay_L73 walls owners sick shares kinds post n 0 0 (days + 1) did land places) :
    ∀ k i did, i + k = 2 * W → (∀ j, j < i → did j = if j % 2 = 0 then didP kd A idle S S.2.2.2.2.1 (j / 2) else didP kd B idle S S.2.2.2.2.2 (j / 2)) → P_X6_goDay_L2 walls owners sick shares kinds post (k + 1) idle (nI i) days did land places := by
  obtain ⟨hF, hW, hAB, hkd⟩ := hV
  obtain ⟨rfl, ho, hk⟩ := hK
  obtain ⟨rfl, rfl, hl, hp⟩ := hS
  intro k
  induction k with
  | zero =>
    intro i did hi hd
    rw [P_X6_goDay_L2]
    unfold P_X1_sides
    rw [ni2]
    refine ⟨fun _ => h did (fun w hw => ⟨?_, ?_⟩), fun q => absurd (nI_le (by omega) (by omega)) q⟩
    · rw [hd (2 * w) (by omega), if_pos (by omega), show 2 * w / 2 = w by omega]
    · rw [hd (2 * w + 1) (by omega), if_neg (by omega), show (2 * w + 1) / 2 = w by omega]
  | succ k ih =>
    intro i did hi hd
    have hw : i / 2 < W := by omega
    obtain ⟨hA, hB, hne⟩ := hAB (i / 2) hw
    obtain ⟨ho1, ho2⟩ := ho (i / 2) hw
    have c1 : (nI i).toNatClampNeg = i := nI_clamp (by omega)
    rw [P_X6_goDay_L2]
    unfold P_X1_sides
    rw [ni2]
    refine ⟨fun q => absurd q (nI_ge (by omega) (by omega)), fun _ => ⟨ni_out (by omega) (by omega), ?_⟩⟩
    rw [c1]
    -- the owner of this side
    have key : ∃ f, f < F ∧ owners i = nI f ∧ (if i % 2 = 0 then didP kd A idle S S.2.2.2.2.1 (i / 2) else didP kd B idle S S.2.2.2.2.2 (i / 2)) = if bitP idle f then 0 else doP S.1 S.2.1 (kd f) f (shares i) (S.2.2.1 f) := by
      by_cases hi2 : i % 2 = 0
      · refine ⟨A (i / 2), hA, ?_, ?_⟩
        · rw [← ho1, show 2 * (i / 2) = i by omega]
        · rw [if_pos hi2, didP, ← (hp (i / 2) (by omega)).2.1, show 2 * (i / 2) = i by omega]
      · refine ⟨B (i / 2), hB, ?_, ?_⟩
        · rw [← ho2, show 2 * (i / 2) + 1 = i by omega]
        · rw [if_neg hi2, didP, ← (hp (i / 2) (by omega)).2.2, show 2 * (i / 2) + 1 = i by omega]
    obtain ⟨f, hf, hof, hval⟩ := key
    have next : ∀ v, v = (if i % 2 = 0 then didP kd A idle S S.2.2.2.2.1 (i / 2) else didP kd B idle S S.2.2.2.2.2 (i / 2)) → P_X6_goDay_b51 (nI W) owners S.2.1 shares kinds (P_X6_goDay_L2 (nI W) owners S.2.1 shares kinds post (k + 1)) post idle (nI i) (nI i) v S.1 did land places := by
      intro v hv
      unfold P_X6_goDay_b51
      refine ⟨ni_out (by omega) (by omega), ?_⟩
      rw [nI_1, c1]
      refine ih (i + 1) _ (by omega) (fun j hj => ?_)
      simp only [upd_va, va_up]
      by_cases hji : j = i
      · subst hji; rw [if_pos rfl, hv]
      · rw [if_neg hji]; exact hd j (by omega)
    rw [hof]
    refine ⟨fun q => ?_, fun q => ?_⟩
    · unfold P_X6_goDay_b29
      refine ⟨fun _ => ?_, fun z => absurd rfl z⟩
      refine does_C (by omega) hof (by omega) (hk f hf) (hkd f hf) (hl f hf) (by have := LdV_lt hL hf; omega) ?_
      exact next _ (by rw [hval, if_neg q])
    · unfold P_X6_goDay_b29
      refine ⟨fun z => absurd z (by decide), fun _ => ?_⟩
      exact next _ (by rw [hval, if_pos q])
theorem goDay_C {F W : Nat} {kd A B : Nat → Nat} {walls : Int32} {owners kinds : Nat → Int32} (hV : CoV F W kd A B) (hK : CoC F W kd A B walls owners kinds) {S : St} (hL : LdV F S) {days sick : Int32} {land places shares did : Nat → Int32} (hS : StC F S days sick land places shares) {idle : Int32} {post : Int32 → Int32 → (Nat → Int32) → (Nat → Int32) → (Nat → Int32) → Prop}
    (h : ∀ did' land' places', StC F (dayS W kd A B idle S) (days + 1) sick land' places' shares → post (nI (dayF W kd A B idle S)) (days + 1) did' land' places') : P_X6_goDay idle walls owners days sick did shares kinds land places post := by
  unfold P_X6_goDay
  refine ⟨2 * W + 1, ?_⟩
  have := goDay1_C hV hK hL hS (idle := idle) (post := post) (fun did' hd => ⟨W + 1, ?_⟩) (2 * W) 0 did (by omega) (fun j hj => by omega)
  · exact this
  · refine goDay2_C hV hK (s0 := (S.2.2.1, S.2.2.2.1, 0)) hL hd (fun land' places' h1 h2 => ?_) W 0 land places (by omega) hS.2.2.1 (fun w hw => (hS.2.2.2 w hw).1)
    exact h did' land' places' ⟨by rw [hS.1]; rfl, hS.2.1, h1, fun w hw => ⟨h2 w hw, (hS.2.2.2 w hw).2⟩⟩
