section
variable {xl : Int32} {xt : Nat → Int32} {cf cw ct : Int32} {ck ch co ctw ctp : Nat → Int32} {nd ns : Int32} {nl np nsh : Nat → Int32} {us : Int32} {p8 : Nat → SVt} {ks : Int32} {p2 : Nat → SVt} {zs : Int32} {zw zp zd : Nat → Int32}
variable {mf mw mt : Int32} {msort mh mfi mse mby moff slot : Nat → Int32} {acts keeps ml : Int32} {mtx : Nat → Int32} {seens : Int32} {sw sp st : Nat → Int32} {idl : Int32}
variable {nf nw nt : Int32} {so nh n1 n2 nb no : Nat → Int32} {pl fa wa tr a0 bg w0 : Int32} {nu tW tP ow ki ho la cln : Nat → Int32}
/-! fault and lay -/
theorem parP_lt {n : Nat} {tx : Nat → Nat} : ∀ k c i b c', parP n tx k c i = (some b, c') → b < n := by
  intro k
  induction k with
  | zero => intro c i b c' e; rw [parP] at e; cases e
  | succ k ih =>
    intro c i b c' e
    rw [parP] at e
    split at e
    · cases e
    · next q =>
      split at e
      · have e1 := Option.some.inj (Prod.mk.inj e).1
        omega
      · exact ih _ _ _ _ e
/-- how all stands at first: k families have shared their hours -/
def begS (W : Nat) (A B hr ld : Nat → Nat) : Nat → St
  | 0 => (0, 0, ld, (fun _ => 0), (fun _ => 0), (fun _ => 0))
  | k + 1 => evS W A B k (hr k) (begS W A B hr ld k)
theorem begS_ld {W : Nat} {A B hr ld : Nat → Nat} : ∀ k, (begS W A B hr ld k).2.2.1 = ld := by
  intro k
  induction k with
  | zero => rfl
  | succ k ih => exact ih
theorem evV_le {h n k : Nat} (hh : h ≤ 12) : ∃ a, a ≤ 12 ∧ evV h n k = nI a := by
  refine ⟨h / n + if k < h % n then 1 else 0, ?_, rfl⟩
  by_cases q0 : n = 0
  · subst q0
    rw [Nat.div_zero]
    split <;> omega
  · by_cases q1 : n = 1
    · subst q1
      rw [Nat.div_one, Nat.mod_one, if_neg (by omega)]
      omega
    · have := Nat.div_le_div_left (a := h) (b := n) (c := 2) (by omega) (by omega)
      split <;> omega
theorem sumN_b {f : Nat → Nat} {b : Nat} : ∀ n, (∀ i, i < n → f i ≤ b) → sumN f n ≤ n * b := by
  intro n
  induction n with
  | zero => intro _; exact Nat.zero_le _
  | succ n ih =>
    intro h
    have h1 := ih (fun i hi => h i (by omega))
    have h2 := h n (by omega)
    rw [sumN, Nat.succ_mul]
    omega
theorem begS_V {F W : Nat} {A B hr ld : Nat → Nat} (hF : F ≤ 6) (hl : ∀ f, f < F → ld f ≤ 99) (hh : ∀ f, f < F → hr f ≤ 12) : ∀ k, k ≤ F → StV F W (begS W A B hr ld k) := by
  intro k
  induction k with
  | zero =>
    intro _
    refine ⟨?_, fun w _ _ => ⟨rfl, rfl, rfl⟩, fun w _ => ⟨⟨0, by omega, rfl⟩, ⟨0, by omega, rfl⟩⟩, ⟨0, Nat.two_pow_pos F, rfl⟩⟩
    have := sumN_b (f := ld) (b := 99) F hl
    show sumN ld F ≤ 1000
    omega
  | succ k ih =>
    intro hk
    obtain ⟨i1, i2, i3, i4⟩ := ih (by omega)
    refine ⟨i1, fun w h1 h2 => ⟨(i2 w h1 h2).1, ?_, ?_⟩, fun w hw => ⟨?_, ?_⟩, i4⟩
    · show (if w < W ∧ A w = k then evV (hr k) (cnt A B k W) (cnt A B k w) else (begS W A B hr ld k).2.2.2.2.1 w) = 0
      rw [if_neg (by omega)]; exact (i2 w h1 h2).2.1
    · show (if w < W ∧ B w = k then evV (hr k) (cnt A B k W) (cnt A B k w) else (begS W A B hr ld k).2.2.2.2.2 w) = 0
      rw [if_neg (by omega)]; exact (i2 w h1 h2).2.2
    · show ∃ a, a ≤ 12 ∧ (if w < W ∧ A w = k then evV (hr k) (cnt A B k W) (cnt A B k w) else (begS W A B hr ld k).2.2.2.2.1 w) = nI a
      by_cases q : w < W ∧ A w = k
      · rw [if_pos q]; exact evV_le (hh k (by omega))
      · rw [if_neg q]; exact (i3 w hw).1
    · show ∃ a, a ≤ 12 ∧ (if w < W ∧ B w = k then evV (hr k) (cnt A B k W) (cnt A B k w) else (begS W A B hr ld k).2.2.2.2.2 w) = nI a
      by_cases q : w < W ∧ B w = k
      · rw [if_pos q]; exact evV_le (hh k (by omega))
      · rw [if_neg q]; exact (i3 w hw).2
theorem begin_C {F W : Nat} {A B hr ld : Nat → Nat} {d s : Int32} {hs ls land ps sh : Nat → Int32} {post : Int32 → Int32 → (Nat → Int32) → (Nat → Int32) → (Nat → Int32) → Prop} (hV : OwV F W A B) (hO : OwC W A B wa ow) (hh : ∀ f, f < F → hs f = nI (hr f) ∧ hr f ≤ 12 ∧ ls f = nI (ld f)) (hp : ∀ ps' sh' land', StC F (begS W A B hr ld F) 0 0 land' ps' sh' → post 0 0 ps' sh' land') : P_X6_begin d s ps sh (nI F) wa ls land hs ow post := by
  have hF := hV.1
  have k60 : ∀ k i ps sh land, i + k = F → StC F (begS W A B hr ld i) 0 0 (fun f => nI (ld f)) ps sh → (∀ f, f < i → land f = nI (ld f)) → P_X6_begin_L60 (nI F) wa ls hs ow post (k + 1) (nI i) 0 0 ps sh land := by
    intro k
    induction k with
    | zero =>
      intro i ps sh land hi hS hL
      rw [P_X6_begin_L60]
      have e : i = F := by omega
      rw [e] at hS hL ⊢
      exact ⟨fun _ => hp _ _ _ ⟨hS.1, hS.2.1, fun f hf => by rw [hL f hf, begS_ld], hS.2.2.2⟩, fun q => absurd (Int32.le_refl _) q⟩
    | succ k ih =>
      intro i ps sh land hi hS hL
      rw [P_X6_begin_L60]
      obtain ⟨y1, y2, y3⟩ := hh i (by omega)
      refine ⟨fun q => absurd q (nI_ge (by omega) (by omega)), fun _ => ?_⟩
      rw [cl (by omega), nI_1, y1, y3]
      refine ⟨ni_out (by omega) (by omega), ni_out (by omega) (by omega), ni_out (by omega) (by omega), shareEvenly_C hV hO hS (by omega) y2 (fun sh' hS' => ih (i + 1) _ _ _ (by omega) hS' (fun f hf => ?_))⟩
      by_cases e : f = i
      · subst e; rw [pk_us]
      · rw [pk_un e]; exact hL f (by omega)
  have k36 : ∀ k i ps sh land, i + k = 18 → (∀ w, w < 9 → ps w = 0) → (∀ j, j < i → sh j = 0) → P_X6_begin_L36 (nI F) wa ls hs ow post (k + 1) (nI i) 0 0 ps sh land := by
    intro k
    induction k with
    | zero =>
      intro i ps sh land hi h1 h2
      rw [P_X6_begin_L36]
      have e : i = 18 := by omega
      subst e
      exact ⟨fun _ => ⟨F + 1, k60 F 0 ps sh land (by omega) ⟨rfl, rfl, fun f hf => rfl, fun w hw => ⟨h1 w hw, h2 _ (by omega), h2 _ (by omega)⟩⟩ (fun f hf => by omega)⟩, fun q => absurd (by decide) q⟩
    | succ k ih =>
      intro i ps sh land hi h1 h2
      rw [P_X6_begin_L36]
      refine ⟨fun q => absurd q (by rw [show (18 : Int32) = nI 18 from rfl]; exact nI_ge (by omega) (by omega)), fun _ => ?_⟩
      rw [cl (by omega), nI_1]
      refine ⟨ni_out (by omega) (by omega), ih (i + 1) _ _ _ (by omega) h1 (fun j hj => ?_)⟩
      by_cases e : j = i
      · subst e; rw [pk_us]
      · rw [pk_un e]; exact h2 j (by omega)
  have k12 : ∀ k i ps sh land, i + k = 9 → (∀ w, w < i → ps w = 0) → P_X6_begin_L12 (nI F) wa ls hs ow post (k + 1) (nI i) 0 0 ps sh land := by
    intro k
    induction k with
    | zero =>
      intro i ps sh land hi h1
      rw [P_X6_begin_L12]
      have e : i = 9 := by omega
      subst e
      exact ⟨fun _ => ⟨19, k36 18 0 ps sh land (by omega) h1 (fun j hj => by omega)⟩, fun q => absurd (by decide) q⟩
    | succ k ih =>
      intro i ps sh land hi h1
      rw [P_X6_begin_L12]
      refine ⟨fun q => absurd q (by rw [show (9 : Int32) = nI 9 from rfl]; exact nI_ge (by omega) (by omega)), fun _ => ?_⟩
      rw [cl (by omega), nI_1]
      refine ⟨ni_out (by omega) (by omega), ih (i + 1) _ _ _ (by omega) (fun j hj => ?_)⟩
      by_cases e : j = i
      · subst e; rw [pk_us]
      · rw [pk_un e]; exact h1 j (by omega)
  unfold P_X6_begin
  exact ⟨10, k12 9 0 ps sh land (by omega) (fun w hw => by omega)⟩
theorem settles_M {f0 u0 t0 : Int32} {so2 hh2 by2 of2 fi2 se2 : Nat → Int32} {post : Int32 → Int32 → Int32 → (Nat → Int32) → (Nat → Int32) → (Nat → Int32) → (Nat → Int32) → (Nat → Int32) → (Nat → Int32) → Prop} (hp : ∀ so' h' b' o' f' s', (∀ k, k < 6 → so' k = so k ∧ h' k = nh k ∧ b' k = nb k ∧ o' k = no k) → (∀ w, w < 9 → f' w = n1 w ∧ s' w = n2 w) → post nf nw nt so' h' b' o' f' s') : P_X9_settles f0 u0 t0 nf nw nt so so2 nh hh2 nb by2 no of2 n1 fi2 n2 se2 post := by
  have k88 : ∀ k i so' h' b' o' f' s', i + k = 9 → (∀ k, k < 6 → so' k = so k ∧ h' k = nh k ∧ b' k = nb k ∧ o' k = no k) → (∀ w, w < i → f' w = n1 w ∧ s' w = n2 w) → P_X9_settles_L88 nf nw nt so nh nb no n1 n2 post (k + 1) (nI i) nf nw nt so' h' b' o' f' s' := by
    intro k
    induction k with
    | zero =>
      intro i so' h' b' o' f' s' hi e1 e2
      rw [P_X9_settles_L88]
      have e : i = 9 := by omega
      subst e
      exact ⟨fun _ => hp _ _ _ _ _ _ e1 e2, fun q => absurd (by decide) q⟩
    | succ k ih =>
      intro i so' h' b' o' f' s' hi e1 e2
      rw [P_X9_settles_L88]
      refine ⟨fun q => absurd q (by rw [show (9 : Int32) = nI 9 from rfl]; exact nI_ge (by omega) (by omega)), fun _ => ?_⟩
      rw [cl (by omega), nI_1]
      have o9 : vp_in (nI i) 9 := ni_out (by omega) (by omega)
      refine ⟨o9, o9, o9, o9, ih (i + 1) _ _ _ _ _ _ (by omega) e1 (fun w hw => ?_)⟩
      by_cases e : w = i
      · subst e; rw [pk_us, pk_us]; exact ⟨rfl, rfl⟩
      · rw [pk_un e, pk_un e]; exact e2 w (by omega)
  have k26 : ∀ k i so' h' b' o' f' s', i + k = 6 → (∀ k, k < i → so' k = so k ∧ h' k = nh k ∧ b' k = nb k ∧ o' k = no k) → P_X9_settles_L26 nf nw nt so nh nb no n1 n2 post (k + 1) (nI i) nf nw nt so' h' b' o' f' s' := by
    intro k
    induction k with
    | zero =>
      intro i so' h' b' o' f' s' hi e1
      rw [P_X9_settles_L26]
      have e : i = 6 := by omega
      subst e
      exact ⟨fun _ => ⟨10, k88 9 0 _ _ _ _ _ _ (by omega) e1 (fun w hw => by omega)⟩, fun q => absurd (by decide) q⟩
    | succ k ih =>
      intro i so' h' b' o' f' s' hi e1
      rw [P_X9_settles_L26]
      refine ⟨fun q => absurd q (by rw [show (6 : Int32) = nI 6 from rfl]; exact nI_ge (by omega) (by omega)), fun _ => ?_⟩
      rw [cl (by omega), nI_1]
      have o6 : vp_in (nI i) 6 := ni_out (by omega) (by omega)
      refine ⟨o6, o6, o6, o6, o6, o6, o6, o6, ih (i + 1) _ _ _ _ _ _ (by omega) (fun w hw => ?_)⟩
      by_cases e : w = i
      · subst e; rw [pk_us, pk_us, pk_us, pk_us]; exact ⟨rfl, rfl, rfl, rfl⟩
      · rw [pk_un e, pk_un e, pk_un e, pk_un e]; exact e1 w (by omega)
  unfold P_X9_settles
  exact ⟨7, k26 6 0 _ _ _ _ _ _ (by omega) (fun w hw => by omega)⟩
theorem layL_M {F W : Nat} {A B hr ld : Nat → Nat} {sl2 : Nat → Int32} {post : Int32 → Int32 → Int32 → Int32 → Int32 → Int32 → Int32 → Int32 → Int32 → Int32 → Int32 → Int32 → Int32 → (Nat → Int32) → (Nat → Int32) → (Nat → Int32) → (Nat → Int32) → (Nat → Int32) → (Nat → Int32) → (Nat → Int32) → (Nat → Int32) → (Nat → Int32) → (Nat → Int32) → (Nat → Int32) → (Nat → Int32) → (Nat → Int32) → Prop} (hV : OwV F W A B) (hO : OwM W A B mw mfi mse) (hh : ∀ f, f < F → mh f = nI (hr f) ∧ hr f ≤ 12)
    (hp : ∀ sl, StM F 0 (begS W A B hr ld F) sl → (∀ j, 35 ≤ j → sl j = sl2 j) → post (nI F) (nI F) mw mt nf nw nt 0 0 a0 bg w0 0 sl so nh n1 n2 nb no msort mh mby moff mfi mse) :
    ∀ k i sl, i + k = F → StM F 0 (begS W A B hr ld i) sl → (∀ j, 35 ≤ j → sl j = sl2 j) → P_X9_lay_L31 ml mtx post (k + 1) (nI i) (nI F) mw mt nf nw nt acts keeps a0 bg w0 seens sl so nh n1 n2 nb no msort mh mby moff mfi mse := by
  have hF := hV.1
  intro k
  induction k with
  | zero =>
    intro i sl hi hS hL
    rw [P_X9_lay_L31]
    have e : i = F := by omega
    rw [e] at hS ⊢
    exact ⟨fun _ => hp _ hS hL, fun q => absurd (Int32.le_refl _) q⟩
  | succ k ih =>
    intro i sl hi hS hL
    rw [P_X9_lay_L31]
    obtain ⟨y1, y2⟩ := hh i (by omega)
    refine ⟨fun q => absurd q (nI_ge (by omega) (by omega)), fun _ => ?_⟩
    rw [cl (by omega), nI_1, y1]
    exact ⟨ni_out (by omega) (by omega), evenly_M (b := 0) hV hO (by omega) hS (by omega) y2 (fun sl' hS' e => ih (i + 1) _ (by omega) hS' (fun j hj => by rw [e j (by omega)]; exact hL j hj))⟩
theorem q_fault (h : RelX xl xt cf cw ct ck ch co ctw ctp nd ns nl np nsh us p8 ks p2 zs zw zp zd mf mw mt msort mh mfi mse mby moff slot acts keeps ml mtx seens sw sp st idl) : P_X8_fault xl pl fa wa tr xt nu tW tP ow ki ho la (fun r pl' fa' wa' tr' nu' tW' tP' ow' ki' ho' la' => P_X9_fault nf nw nt ml a0 bg w0 slot mtx so nh n1 n2 nb no (fun r' nf' nw' nt' a' b' w' slot' so' nh' n1' n2' nb' no' => r = r' ∧ RelX xl xt cf cw ct ck ch co ctw ctp nd ns nl np nsh us p8 ks p2 zs zw zp zd mf mw mt msort mh mfi mse mby moff slot' acts keeps ml mtx seens sw sp st idl)) := by
  obtain ⟨n, tx, hx, hm⟩ := RText_out h.1
  unfold P_X8_fault P_X9_fault
  refine readInto_C hx (fun b c' e _ _ _ _ _ _ _ _ _ _ _ => ?_) (fun c' e hV _ _ _ _ _ _ _ _ _ _ _ hC => ?_)
  · refine reads_M hm (fun b2 c2 e2 _ _ _ _ _ sl' _ _ _ _ _ _ hs => ⟨fun _ => ⟨?_, RelX_slot h hs⟩, fun z => absurd rfl z⟩) (fun c2 e2 _ _ _ _ _ _ _ _ _ _ _ _ _ _ _ _ => ?_)
    · rw [e] at e2
      have e3 := Option.some.inj (Prod.mk.inj e2).1
      rw [e3]
    · rw [e] at e2
      cases (Prod.mk.inj e2).1
  · refine reads_M hm (fun b2 c2 e2 _ _ _ _ _ sl' _ _ _ _ _ _ hs => ?_) (fun c2 e2 _ _ _ _ _ _ _ _ _ _ _ _ _ _ _ hs => ⟨fun z => absurd z (by decide), fun _ => ⟨rfl, RelX_slot h hs⟩⟩)
    rw [e] at e2
    cases (Prod.mk.inj e2).1
set_option maxHeartbeats 1000000 in
theorem q_lay (h : RelX xl xt cf cw ct ck ch co ctw ctp nd ns nl np nsh us p8 ks p2 zs zw zp zd mf mw mt msort mh mfi mse mby moff slot acts keeps ml mtx seens sw sp st idl) : P_X8_lay xl pl fa wa tr xt nu tW tP ow ki ho la cf cw ct ck ch cln co ctw ctp nd ns np nsh nl us ks zs (fun r pl' fa' wa' tr' nu' tW' tP' ow' ki' ho' la' cf' cw' ct' ck' ch' cln' co' ctw' ctp' nd' ns' np' nsh' nl' us' ks' zs' => P_X9_lay mf mw mt nf nw nt acts keeps ml a0 bg w0 seens slot mtx so nh n1 n2 nb no msort mh mby moff mfi mse (fun r' mf' mw' mt' nf' nw' nt' acts' keeps' a' b' w' seens' slot' so' nh' n1' n2' nb' no' msort' mh' mby' moff' mfi' mse' => r = r' ∧ RelX xl xt cf' cw' ct' ck' ch' co' ctw' ctp' nd' ns' nl' np' nsh' us' p8 ks' p2 zs' zw zp zd mf' mw' mt' msort' mh' mfi' mse' mby' moff' slot' acts' keeps' ml mtx seens' sw sp st idl)) := by
  obtain ⟨n, tx, hx, hm⟩ := RText_out h.1
  have hn := hx.1
  unfold P_X8_lay P_X9_lay
  refine readInto_C hx (fun b c' e _ _ _ _ _ _ _ _ _ _ _ => ⟨fun _ => ?_, fun z => absurd z (ne_m4 (by have := parP_lt _ _ _ _ _ e; omega))⟩) (fun c' e hV fa' wa' tr' pl' nu' tW' tP' ow' ki' ho' la' hC => ⟨fun z => absurd rfl z, fun _ => ?_⟩)
  · refine reads_M hm (fun b2 c2 e2 _ _ _ _ _ sl' _ _ _ _ _ _ hs => ⟨fun _ => ⟨rfl, RelX_slot h hs⟩, fun z => absurd rfl z⟩) (fun c2 e2 _ _ _ _ _ _ _ _ _ _ _ _ _ _ _ _ => ?_)
    rw [e] at e2
    cases (Prod.mk.inj e2).1
  · obtain ⟨F, W, T, kd, hr, ld, A, B, tw, tp⟩ := c'
    have hV' := hV
    obtain ⟨g1, g2, g3, g4, g5, g6⟩ := hV
    obtain ⟨c1, c2, c3, c4, c5, c6⟩ := hC
    refine ⟨fun z => ?_, fun z => ?_⟩
    · have hF1 : 1 ≤ F := by
        have : ¬ F = 0 := fun q => z (by rw [c1, q]; rfl)
        omega
      have hVo : OwV F W A B := ⟨g1, by omega, g4⟩
      unfold P_X1_takeOver
      rw [c1]
      refine begin_C (hr := hr) (ld := ld) hVo (⟨c2, fun w hw => by rw [sb_cpy0 (by omega), sb_cpy0 (by omega)]; exact c4 w hw⟩ : OwC W A B _ _) (fun f hf => ⟨by rw [sb_cpy0 (by omega)]; exact (c5 f hf).2.1, (g5 f hf).2.1, by rw [sb_cpy0 (by omega)]; exact (c5 f hf).2.2⟩) (fun ps' sh' land' hS => ?_)
      refine reads_M hm (fun b2 cc2 e2 _ _ _ _ _ sl' _ _ _ _ _ _ hs => ?_) (fun cc2 e2 hV2 nf' nw' nt' a' b' w' sl' so' nh' n1' n2' nb' no' hM hs => ?_)
      · rw [e] at e2
        cases (Prod.mk.inj e2).1
      · rw [e] at e2
        have e3 := (Prod.mk.inj e2).2
        rw [← e3] at hM
        obtain ⟨m1, m2, m3, m4, m5, m6, m7⟩ := hM
        refine ⟨fun q => absurd q (by decide), fun _ => ⟨fun q => ?_, fun q => ?_⟩⟩
        · refine settles_M (fun so2 h2 b2 o2 f2 s2 es ew => ?_)
          refine copies_M (a := 385) (b := 0) (by omega) (by omega) (by omega) (fun sl2 x1 x2 => ⟨F + 1, ?_⟩)
          rw [m1]
          refine layL_M (hr := hr) (ld := ld) (sl2 := sl2) hVo (⟨m2, fun w hw => by rw [(ew w (by omega)).1, (ew w (by omega)).2]; exact m4 w hw⟩ : OwM W A B nw' f2 s2) (fun f hf => ⟨by rw [(es f (by omega)).2.1]; exact (m5 f hf).2.1, (g5 f hf).2.1⟩) (fun sl hSl hsl => ?_) F 0 sl2 (by omega) ?_ (fun _ _ => rfl)
          · refine ⟨rfl, h.1, h.2.1, F, W, T, kd, hr, A, B, tw, tp, ?_, ⟨begS W A B hr ld F, begS_V g1 (fun f hf => (g5 f hf).2.2.1) (fun f hf => (g5 f hf).2.1) F (Nat.le_refl _), hS, hSl⟩, ⟨0, by omega, rfl, rfl, fun k hk => by omega⟩, ⟨0, by omega, rfl, rfl, fun k hk => by omega⟩, ⟨0, by omega, rfl, rfl, fun k hk => by omega⟩⟩
            refine ⟨⟨g1, by omega, g4, fun f hf => (g5 f hf).1⟩, hF1, g2, g3, fun f hf => (g5 f hf).2.1, fun f hf => (g5 f hf).2.2.2, g6, rfl, rfl, c3, m3, ⟨c2, fun w hw => ?_, fun f hf => ?_⟩, ⟨m2, fun w hw => ?_, fun f hf => ?_⟩, fun f hf => ⟨?_, ?_⟩, fun t ht => ⟨?_, ?_, ?_, ?_⟩⟩
            · rw [sb_cpy0 (by omega), sb_cpy0 (by omega)]; exact c4 w hw
            · rw [sb_cpy0 (by omega)]; exact (c5 f hf).1
            · rw [(ew w (by omega)).1, (ew w (by omega)).2]; exact m4 w hw
            · rw [(es f (by omega)).1]; exact (m5 f hf).1
            · rw [sb_cpy0 (by omega)]; exact (c5 f hf).2.1
            · rw [(es f (by omega)).2.1]; exact (m5 f hf).2.1
            · rw [sb_cpy0 (by omega)]; exact (c6 t ht).1
            · rw [(es t (by omega)).2.2.1]; exact (m6 t ht).1
            · rw [sb_cpy0 (by omega)]; exact (c6 t ht).2
            · rw [(es t (by omega)).2.2.2]; exact (m6 t ht).2
          · have y : ∀ k, k < 35 → sl2 k = sl' (385 + k) := fun k hk => by have := x1 k hk; rw [Nat.zero_add] at this; exact this
            refine ⟨?_, ?_, fun f hf => ?_, fun w hw => ⟨?_, ?_, ?_⟩⟩
            · show sl2 (0 + 34) = 0
              rw [Nat.zero_add, y 34 (by omega)]; exact m7 34 (by omega) (by omega)
            · show sl2 (0 + 33) = 0
              rw [Nat.zero_add, y 33 (by omega)]; exact m7 33 (by omega) (by omega)
            · show sl2 (0 + f) = nI (ld f)
              rw [Nat.zero_add, y f (by omega)]; exact (m5 f hf).2.2
            · show sl2 (0 + 6 + w) = 0
              rw [y (0 + 6 + w) (by omega)]; exact m7 _ (by omega) (by omega)
            · show sl2 (0 + 15 + w) = 0
              rw [y (0 + 15 + w) (by omega)]; exact m7 _ (by omega) (by omega)
            · show sl2 (0 + 24 + w) = 0
              rw [y (0 + 24 + w) (by omega)]; exact m7 _ (by omega) (by omega)
        · rw [m1] at q
          have := (ni_e0 (a := F) (by omega)).mp q
          omega
    · have hF0 : F = 0 := by rw [c1] at z; exact (ni_e0 (a := F) (by omega)).mp z
      refine reads_M hm (fun b2 cc2 e2 _ _ _ _ _ sl' _ _ _ _ _ _ hs => ?_) (fun cc2 e2 hV2 nf' nw' nt' a' b' w' sl' so' nh' n1' n2' nb' no' hM hs => ?_)
      · rw [e] at e2
        cases (Prod.mk.inj e2).1
      · rw [e] at e2
        have e3 := (Prod.mk.inj e2).2
        rw [← e3] at hM
        exact ⟨fun q => absurd q (by decide), fun _ => ⟨fun q => absurd (by rw [hM.1, hF0]; rfl) q, fun _ => ⟨rfl, RelX_slot h hs⟩⟩⟩
end
