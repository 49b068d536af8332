section
variable {xl : Int32} {xt : Nat → Int32} {cf cw ct : Int32} {ck ch co ctw ctp : Nat → Int32} {nd ns : Int32} {nl np nsh : Nat → Int32} {us : Int32} {p8 : Nat → SVt} {ks : Int32} {p2 : Nat → SVt} {zs : Int32} {zw zp zd : Nat → Int32}
variable {mf mw mt : Int32} {msort mh mfi mse mby moff slot : Nat → Int32} {acts keeps ml : Int32} {mtx : Nat → Int32} {seens : Int32} {sw sp st : Nat → Int32} {idl : Int32}
variable {fd fs : Int32} {fl fp fsh fdi d1 d2 : Nat → Int32}
/-! ways to share -/
abbrev T4 : Type := Nat × Nat × Nat × Nat
def wf (t : T4) (k : Nat) : Nat := if k = 0 then t.1 else if k = 1 then t.2.1 else if k = 2 then t.2.2.1 else t.2.2.2
def nextT (n : Nat) (t : T4) : Option T4 :=
  if n = 2 then (if t.1 = 0 then none else some (t.1 - 1, t.2.1 + 1, t.2.2.1, t.2.2.2))
  else if n = 3 then (if t.2.1 = 0 then (if t.1 = 0 then none else some (t.1 - 1, t.2.2.1 + 1, 0, t.2.2.2)) else some (t.1, t.2.1 - 1, t.2.2.1 + 1, t.2.2.2))
  else if n = 4 then (if t.2.2.1 = 0 then (if t.2.1 = 0 then (if t.1 = 0 then none else some (t.1 - 1, t.2.2.2 + 1, 0, 0)) else some (t.1, t.2.1 - 1, t.2.2.2 + 1, 0)) else some (t.1, t.2.1, t.2.2.1 - 1, t.2.2.2 + 1))
  else none
def runT (n : Nat) : Nat → T4 → Bool
  | 0, _ => false
  | k + 1, t => match nextT n t with
    | none => true
    | some t' => runT n k t'
theorem run_ok : ∀ n, n < 5 → ∀ h, h < 13 → runT n 455 (h, 0, 0, 0) = true := by decide +kernel
def sm (t : T4) : Prop := t.1 + t.2.1 + t.2.2.1 + t.2.2.2 ≤ 12
theorem nextT_sm {n : Nat} {t t' : T4} (h : sm t) (e : nextT n t = some t') : sm t' := by
  obtain ⟨a, b, c, d⟩ := t
  unfold sm at *
  unfold nextT at e
  dsimp only at *
  split at e
  · split at e
    · cases e
    · cases e; dsimp only; omega
  · split at e
    · split at e
      · split at e
        · cases e
        · cases e; dsimp only; omega
      · cases e; dsimp only; omega
    · split at e
      · split at e
        · split at e
          · split at e
            · cases e
            · cases e; dsimp only; omega
          · cases e; dsimp only; omega
        · cases e; dsimp only; omega
      · cases e
def W4 (n : Nat) (t : T4) (way : Nat → Int32) : Prop := ∀ k, k < n → way k = nI (wf t k)
theorem nextWay_b {post : Int32 → (Nat → Int32) → Prop} {l k : Nat} {way : Nat → Int32} (hk : k < l) (hl : l ≤ 3) (hp : post 1 (upd (upd (upd way l 0) k (way k - 1)) (k + 1) (way l + 1))) : P_X2_nextWay_b46 post (nI l) (nI k) way := by
  unfold P_X2_nextWay_b46
  rw [nI_1, cl (by omega), cl (by omega), cl (by omega), pk_un (show k ≠ l by omega)]
  exact ⟨fun _ => ⟨ni_out (by omega) (by omega), ni_out (by omega) (by omega), ni_out (by omega) (by omega), ni_out (by omega) (by omega), ni_out (by omega) (by omega), hp⟩, fun z => absurd (nI_pos' (by omega)) z⟩
theorem nextWay_s {post : Int32 → (Nat → Int32) → Prop} {l k m : Nat} {x : Int32} {way : Nat → Int32} (hk : k < l) (hl : l ≤ 3) (hx : nI k + -1 = x) (h1 : ¬ way k = 0 → post 1 (upd (upd (upd way l 0) k (way k - 1)) (k + 1) (way l + 1))) (h0 : way k = 0 → P_X2_nextWay_L27 post m (nI l) x way) : P_X2_nextWay_L27 post (m + 1) (nI l) (nI k) way := by
  rw [P_X2_nextWay_L27, cl (by omega), hx]
  exact ⟨fun q => absurd q (nI_pos (by omega)), fun _ => ⟨ni_out (by omega) (by omega), fun q => nextWay_b hk hl (h1 q), h0⟩⟩
theorem nextWay_e {post : Int32 → (Nat → Int32) → Prop} {l m : Nat} {way : Nat → Int32} (hp : post 0 way) : P_X2_nextWay_L27 post (m + 1) (nI l) (-1) way := by
  rw [P_X2_nextWay_L27]
  refine ⟨fun _ => ?_, fun z => absurd (by decide) z⟩
  unfold P_X2_nextWay_b46
  exact ⟨fun z => absurd z (by decide), fun _ => hp⟩
theorem nextWay_C {n : Nat} {t : T4} {way : Nat → Int32} {post : Int32 → (Nat → Int32) → Prop} (hn1 : 1 ≤ n) (hn : n ≤ 4) (hs : sm t) (hw : W4 4 t way) (h1 : ∀ t' way', nextT n t = some t' → W4 4 t' way' → post 1 way') (h0 : nextT n t = none → post 0 way) : P_X2_nextWay (nI n) way post := by
  obtain ⟨a, b, c, d⟩ := t
  unfold sm at hs
  dsimp only at hs
  have w0 : way 0 = nI a := hw 0 (by omega)
  have w1 : way 1 = nI b := hw 1 (by omega)
  have w2 : way 2 = nI c := hw 2 (by omega)
  have w3 : way 3 = nI d := hw 3 (by omega)
  have z0 : way 0 = 0 ↔ a = 0 := by rw [w0, ni_e0 (by omega)]
  have z1 : way 1 = 0 ↔ b = 0 := by rw [w1, ni_e0 (by omega)]
  have z2 : way 2 = 0 ↔ c = 0 := by rw [w2, ni_e0 (by omega)]
  unfold P_X2_nextWay P_X2_nextWay_b22
  match n, hn1, hn with
  | 1, _, _ =>
    refine ⟨fun z => absurd z (by decide), fun _ => ⟨1, ?_⟩⟩
    rw [show nI 1 - 1 = nI 0 from rfl, show nI 0 - 1 = -1 by decide]
    exact nextWay_e (h0 rfl)
  | 2, _, _ =>
    refine ⟨fun z => absurd z (by decide), fun _ => ⟨2, ?_⟩⟩
    rw [show nI 2 - 1 = nI 1 by decide, show nI 1 - 1 = nI 0 by decide]
    refine nextWay_s (by omega) (by omega) (show nI 0 + -1 = -1 by decide) (fun q => ?_) (fun q => ?_)
    · rw [z0] at q
      rw [w0, w1, ni_m1 q, nI_1]
      refine h1 (a - 1, b + 1, c, d) _ (by simp [nextT, q]) (fun k hk => ?_)
      match k, hk with
      | 0, _ => rw [pk_un (by omega), pk_us]; rfl
      | 1, _ => rw [pk_us]; rfl
      | 2, _ => rw [pk_un (by omega), pk_un (by omega), pk_un (by omega)]; exact w2
      | 3, _ => rw [pk_un (by omega), pk_un (by omega), pk_un (by omega)]; exact w3
    · rw [z0] at q
      exact nextWay_e (h0 (by simp [nextT, q]))
  | 3, _, _ =>
    refine ⟨fun z => absurd z (by decide), fun _ => ⟨3, ?_⟩⟩
    rw [show nI 3 - 1 = nI 2 by decide, show nI 2 - 1 = nI 1 by decide]
    refine nextWay_s (by omega) (by omega) (show nI 1 + -1 = nI 0 by decide) (fun q => ?_) (fun q => nextWay_s (by omega) (by omega) (show nI 0 + -1 = -1 by decide) (fun r => ?_) (fun r => ?_))
    · rw [z1] at q
      rw [w1, w2, ni_m1 q, nI_1]
      refine h1 (a, b - 1, c + 1, d) _ (by simp [nextT, q]) (fun k hk => ?_)
      match k, hk with
      | 0, _ => rw [pk_un (by omega), pk_un (by omega), pk_un (by omega)]; exact w0
      | 1, _ => rw [pk_un (by omega), pk_us]; rfl
      | 2, _ => rw [pk_us]; rfl
      | 3, _ => rw [pk_un (by omega), pk_un (by omega), pk_un (by omega)]; exact w3
    · rw [z1] at q
      rw [z0] at r
      rw [w0, w2, ni_m1 r, nI_1]
      refine h1 (a - 1, c + 1, 0, d) _ (by simp [nextT, q, r]) (fun k hk => ?_)
      match k, hk with
      | 0, _ => rw [pk_un (by omega), pk_us]; rfl
      | 1, _ => rw [pk_us]; rfl
      | 2, _ => rw [pk_un (by omega), pk_un (by omega), pk_us]; rfl
      | 3, _ => rw [pk_un (by omega), pk_un (by omega), pk_un (by omega)]; exact w3
    · rw [z1] at q
      rw [z0] at r
      exact nextWay_e (h0 (by simp [nextT, q, r]))
  | 4, _, _ =>
    refine ⟨fun _ => ⟨4, ?_⟩, fun z => absurd (by decide) z⟩
    rw [show (4 : Int32) - 1 = nI 3 by decide, show nI 3 - 1 = nI 2 by decide]
    refine nextWay_s (by omega) (by omega) (show nI 2 + -1 = nI 1 by decide) (fun q => ?_) (fun q => nextWay_s (by omega) (by omega) (show nI 1 + -1 = nI 0 by decide) (fun r => ?_) (fun r => nextWay_s (by omega) (by omega) (show nI 0 + -1 = -1 by decide) (fun s => ?_) (fun s => ?_)))
    · rw [z2] at q
      rw [w2, w3, ni_m1 q, nI_1]
      refine h1 (a, b, c - 1, d + 1) _ (by simp [nextT, q]) (fun k hk => ?_)
      match k, hk with
      | 0, _ => rw [pk_un (by omega), pk_un (by omega), pk_un (by omega)]; exact w0
      | 1, _ => rw [pk_un (by omega), pk_un (by omega), pk_un (by omega)]; exact w1
      | 2, _ => rw [pk_un (by omega), pk_us]; rfl
      | 3, _ => rw [pk_us]; rfl
    · rw [z2] at q
      rw [z1] at r
      rw [w1, w3, ni_m1 r, nI_1]
      refine h1 (a, b - 1, d + 1, 0) _ (by simp [nextT, q, r]) (fun k hk => ?_)
      match k, hk with
      | 0, _ => rw [pk_un (by omega), pk_un (by omega), pk_un (by omega)]; exact w0
      | 1, _ => rw [pk_un (by omega), pk_us]; rfl
      | 2, _ => rw [pk_us]; rfl
      | 3, _ => rw [pk_un (by omega), pk_un (by omega), pk_us]; rfl
    · rw [z2] at q
      rw [z1] at r
      rw [z0] at s
      rw [w0, w3, ni_m1 s, nI_1]
      refine h1 (a - 1, d + 1, 0, 0) _ (by simp [nextT, q, r, s]) (fun k hk => ?_)
      match k, hk with
      | 0, _ => rw [pk_un (by omega), pk_us]; rfl
      | 1, _ => rw [pk_us]; rfl
      | 2, _ => rw [pk_un (by omega), pk_un (by omega), pk_un (by omega), w2, q]; rfl
      | 3, _ => rw [pk_un (by omega), pk_un (by omega), pk_us]; rfl
    · rw [z2] at q
      rw [z1] at r
      rw [z0] at s
      exact nextWay_e (h0 (by simp [nextT, q, r, s]))
theorem beginWays_C {h : Nat} {way : Nat → Int32} {post : (Nat → Int32) → Prop} (hp : ∀ way', W4 4 (h, 0, 0, 0) way' → post way') : P_X2_beginWays (nI h) way post := by
  unfold P_X2_beginWays
  refine ⟨5, ?_⟩
  have key : ∀ k i w, i + k = 4 → (∀ j, j < i → w j = 0) → P_X2_beginWays_L2 post (k + 1) (nI h) (nI i) w := by
    intro k
    induction k with
    | zero =>
      intro i w hi hz
      rw [P_X2_beginWays_L2]
      have e : i = 4 := by omega
      subst e
      refine ⟨fun _ => ⟨ni_out (n := 0) (by omega) (by omega), hp _ (fun j hj => ?_)⟩, fun q => absurd (Int32.le_refl _) q⟩
      match j, hj with
      | 0, _ => exact pk_us
      | 1, _ => rw [show (0 : Int32).toNatClampNeg = 0 from rfl, pk_un (by omega), hz 1 (by omega)]; rfl
      | 2, _ => rw [show (0 : Int32).toNatClampNeg = 0 from rfl, pk_un (by omega), hz 2 (by omega)]; rfl
      | 3, _ => rw [show (0 : Int32).toNatClampNeg = 0 from rfl, pk_un (by omega), hz 3 (by omega)]; rfl
    | succ k ih =>
      intro i w hi hz
      rw [P_X2_beginWays_L2]
      refine ⟨fun q => absurd q (nI_ge (a := i) (b := 4) (by omega) (by omega)), fun _ => ⟨ni_out (by omega) (by omega), ?_⟩⟩
      rw [nI_1, cl (by omega)]
      refine ih (i + 1) _ (by omega) (fun j hj => ?_)
      by_cases e : j = i
      · subst e; exact pk_us
      · rw [pk_un e]; exact hz j (by omega)
  exact key 4 0 way (by omega) (fun j hj => by omega)
/-! the reference's ways -/
theorem sharesOn_e {post : Int32 → (Nat → Int32) → Prop} {n m : Nat} {part : Nat → Int32} (hp : post 0 part) : P_X9_sharesOn_L7 (nI n) post (m + 1) (-1) part := by
  rw [P_X9_sharesOn_L7]
  refine ⟨fun _ => ?_, fun z => absurd (by decide) z⟩
  unfold P_X9_sharesOn_b26
  exact ⟨fun z => absurd z (by decide), fun _ => hp⟩
theorem sharesOn_s {post : Int32 → (Nat → Int32) → Prop} {n k m : Nat} {x : Int32} {part : Nat → Int32} (hk : k < 4) (hx : nI k + -1 = x) (h1 : ¬ part k = 0 → ∃ g, P_X9_sharesOn_L38 (nI n) post g (nI k) (nI 1) (nI (k + 1)) part) (h0 : part k = 0 → P_X9_sharesOn_L7 (nI n) post m x part) : P_X9_sharesOn_L7 (nI n) post (m + 1) (nI k) part := by
  rw [P_X9_sharesOn_L7, cl (by omega), hx]
  unfold P_X9_sharesOn_b26
  rw [nI_1]
  exact ⟨fun q => absurd q (nI_pos (by omega)), fun _ => ⟨ni_out (by omega) (by omega), fun q => ⟨fun _ => h1 q, fun z => absurd (nI_pos' (by omega)) z⟩, h0⟩⟩
theorem sharesOn_i {post : Int32 → (Nat → Int32) → Prop} {n k i g v u : Nat} {part : Nat → Int32} (hi : i < n) (hn : n ≤ 4) (hv : part i = nI v) (h : P_X9_sharesOn_L38 (nI n) post g (nI k) (nI (u + v)) (nI (i + 1)) (upd part i 0)) : P_X9_sharesOn_L38 (nI n) post (g + 1) (nI k) (nI u) (nI i) part := by
  rw [P_X9_sharesOn_L38, cl (n := i) (by omega), hv, na, nI_1 i]
  exact ⟨fun q => absurd q (nI_ge hi (by omega)), fun _ => ⟨ni_out (by omega) (by omega), ni_out (by omega) (by omega), h⟩⟩
theorem sharesOn_x {post : Int32 → (Nat → Int32) → Prop} {n k g u : Nat} {part : Nat → Int32} (hk : k < 3) (hn : n ≤ 4) (h : post 1 (upd (upd part k (part k - 1)) (k + 1) (nI u))) : P_X9_sharesOn_L38 (nI n) post (g + 1) (nI k) (nI u) (nI n) part := by
  rw [P_X9_sharesOn_L38, cl (by omega), nI_1, cl (by omega)]
  exact ⟨fun _ => ⟨ni_out (by omega) (by omega), ni_out (by omega) (by omega), ni_out (by omega) (by omega), h⟩, fun q => absurd (Int32.le_refl _) q⟩
theorem sharesOn_M {n : Nat} {t : T4} {part : Nat → Int32} {post : Int32 → (Nat → Int32) → Prop} (hn1 : 1 ≤ n) (hn : n ≤ 4) (hs : sm t) (hw : W4 n t part) (h1 : ∀ t' part', nextT n t = some t' → W4 n t' part' → post 1 part') (h0 : nextT n t = none → post 0 part) : P_X9_sharesOn (nI n) part post := by
  obtain ⟨a, b, c, d⟩ := t
  unfold sm at hs
  dsimp only at hs
  have w0 : part 0 = nI a := hw 0 (by omega)
  have z0 : part 0 = 0 ↔ a = 0 := by rw [w0, ni_e0 (by omega)]
  unfold P_X9_sharesOn
  match n, hn1, hn with
  | 1, _, _ =>
    refine ⟨1, ?_⟩
    rw [show nI 1 - 2 = -1 by decide]
    exact sharesOn_e (h0 rfl)
  | 2, _, _ =>
    have w1 : part 1 = nI b := hw 1 (by omega)
    refine ⟨2, ?_⟩
    rw [show nI 2 - 2 = nI 0 by decide]
    refine sharesOn_s (by omega) (show nI 0 + -1 = -1 by decide) (fun q => ⟨2, ?_⟩) (fun q => ?_)
    · rw [z0] at q
      refine sharesOn_i (by omega) (by omega) w1 (sharesOn_x (by omega) (by omega) ?_)
      rw [pk_un (by omega), w0, ni_m1 q]
      refine h1 (a - 1, b + 1, c, d) _ (by simp [nextT, q]) (fun k hk => ?_)
      match k, hk with
      | 0, _ => rw [pk_un (by omega), pk_us]; rfl
      | 1, _ => rw [pk_us, Nat.add_comm]; rfl
    · rw [z0] at q
      exact sharesOn_e (h0 (by simp [nextT, q]))
  | 3, _, _ =>
    have w1 : part 1 = nI b := hw 1 (by omega)
    have w2 : part 2 = nI c := hw 2 (by omega)
    have z1 : part 1 = 0 ↔ b = 0 := by rw [w1, ni_e0 (by omega)]
    refine ⟨3, ?_⟩
    rw [show nI 3 - 2 = nI 1 by decide]
    refine sharesOn_s (by omega) (show nI 1 + -1 = nI 0 by decide) (fun q => ⟨2, ?_⟩) (fun q => sharesOn_s (by omega) (show nI 0 + -1 = -1 by decide) (fun r => ⟨3, ?_⟩) (fun r => ?_))
    · rw [z1] at q
      refine sharesOn_i (by omega) (by omega) w2 (sharesOn_x (by omega) (by omega) ?_)
      rw [pk_un (by omega), w1, ni_m1 q]
      refine h1 (a, b - 1, c + 1, d) _ (by simp [nextT, q]) (fun k hk => ?_)
      match k, hk with
      | 0, _ => rw [pk_un (by omega), pk_un (by omega), pk_un (by omega)]; exact w0
      | 1, _ => rw [pk_un (by omega), pk_us]; rfl
      | 2, _ => rw [pk_us, Nat.add_comm]; rfl
    · rw [z1] at q
      rw [z0] at r
      refine sharesOn_i (by omega) (by omega) w1 (sharesOn_i (by omega) (by omega) (v := c) (by rw [pk_un (by omega)]; exact w2) (sharesOn_x (by omega) (by omega) ?_))
      rw [pk_un (by omega), pk_un (by omega), w0, ni_m1 r, q]
      refine h1 (a - 1, c + 1, 0, d) _ (by simp [nextT, q, r]) (fun k hk => ?_)
      match k, hk with
      | 0, _ => rw [pk_un (by omega), pk_us]; rfl
      | 1, _ => rw [pk_us, Nat.add_comm]; rfl
      | 2, _ => rw [pk_un (by omega), pk_un (by omega), pk_us]; rfl
    · rw [z1] at q
      rw [z0] at r
      exact sharesOn_e (h0 (by simp [nextT, q, r]))
  | 4, _, _ =>
    have w1 : part 1 = nI b := hw 1 (by omega)
    have w2 : part 2 = nI c := hw 2 (by omega)
    have w3 : part 3 = nI d := hw 3 (by omega)
    have z1 : part 1 = 0 ↔ b = 0 := by rw [w1, ni_e0 (by omega)]
    have z2 : part 2 = 0 ↔ c = 0 := by rw [w2, ni_e0 (by omega)]
    refine ⟨4, ?_⟩
    rw [show nI 4 - 2 = nI 2 by decide]
    refine sharesOn_s (by omega) (show nI 2 + -1 = nI 1 by decide) (fun q => ⟨2, ?_⟩) (fun q => sharesOn_s (by omega) (show nI 1 + -1 = nI 0 by decide) (fun r => ⟨3, ?_⟩) (fun r => sharesOn_s (by omega) (show nI 0 + -1 = -1 by decide) (fun s => ⟨4, ?_⟩) (fun s => ?_)))
    · rw [z2] at q
      refine sharesOn_i (by omega) (by omega) w3 (sharesOn_x (by omega) (by omega) ?_)
      rw [pk_un (by omega), w2, ni_m1 q]
      refine h1 (a, b, c - 1, d + 1) _ (by simp [nextT, q]) (fun k hk => ?_)
      match k, hk with
      | 0, _ => rw [pk_un (by omega), pk_un (by omega), pk_un (by omega)]; exact w0
      | 1, _ => rw [pk_un (by omega), pk_un (by omega), pk_un (by omega)]; exact w1
      | 2, _ => rw [pk_un (by omega), pk_us]; rfl
      | 3, _ => rw [pk_us, Nat.add_comm]; rfl
    · rw [z2] at q
      rw [z1] at r
      refine sharesOn_i (by omega) (by omega) w2 (sharesOn_i (by omega) (by omega) (v := d) (by rw [pk_un (by omega)]; exact w3) (sharesOn_x (by omega) (by omega) ?_))
      rw [pk_un (by omega), pk_un (by omega), w1, ni_m1 r, q]
      refine h1 (a, b - 1, d + 1, 0) _ (by simp [nextT, q, r]) (fun k hk => ?_)
      match k, hk with
      | 0, _ => rw [pk_un (by omega), pk_un (by omega), pk_un (by omega), pk_un (by omega)]; exact w0
      | 1, _ => rw [pk_un (by omega), pk_us]; rfl
      | 2, _ => rw [pk_us, Nat.add_comm]; rfl
      | 3, _ => rw [pk_un (by omega), pk_un (by omega), pk_us]; rfl
    · rw [z2] at q
      rw [z1] at r
      rw [z0] at s
      refine sharesOn_i (by omega) (by omega) w1 (sharesOn_i (by omega) (by omega) (v := c) (by rw [pk_un (by omega)]; exact w2) (sharesOn_i (by omega) (by omega) (v := d) (by rw [pk_un (by omega), pk_un (by omega)]; exact w3) (sharesOn_x (by omega) (by omega) ?_)))
      rw [pk_un (by omega), pk_un (by omega), pk_un (by omega), w0, ni_m1 s, q, r]
      refine h1 (a - 1, d + 1, 0, 0) _ (by simp [nextT, q, r, s]) (fun k hk => ?_)
      match k, hk with
      | 0, _ => rw [pk_un (by omega), pk_us]; rfl
      | 1, _ => rw [pk_us, Nat.add_comm]; rfl
      | 2, _ => rw [pk_un (by omega), pk_un (by omega), pk_un (by omega), pk_us]; rfl
      | 3, _ => rw [pk_un (by omega), pk_un (by omega), pk_us]; rfl
    · rw [z2] at q
      rw [z1] at r
      rw [z0] at s
      exact sharesOn_e (h0 (by simp [nextT, q, r, s]))
end
