section
variable {xl : Int32} {xt : Nat → Int32} {cf cw ct : Int32} {ck ch co ctw ctp : Nat → Int32} {nd ns : Int32} {nl np nsh : Nat → Int32} {us : Int32} {p8 : Nat → SVt} {ks : Int32} {p2 : Nat → SVt} {zs : Int32} {zw zp zd : Nat → Int32}
variable {mf mw mt : Int32} {msort mh mfi mse mby moff slot : Nat → Int32} {acts keeps ml : Int32} {mtx : Nat → Int32} {seens : Int32} {sw sp st : Nat → Int32} {idl : Int32}
theorem wall_M {F W w : Nat} {kd A B : Nat → Nat} {S : St} {x2 : Int32} {post : Int32 → Prop} (hV : CoV F W kd A B) (hKM : CoM F W kd A B mw mfi mse msort) (hL : LdV F S) (hSM : StM F 0 S slot) (hw : w < W)
    (h0 : x2 = 0 → post (nI (A w))) (h1 : x2 = 1 → post (nI (B w))) (h2 : x2 = 2 → post (S.2.2.2.1 w + 50)) (h3 : x2 = 3 → post (S.2.2.2.2.1 w)) (h4 : x2 = 4 → post (S.2.2.2.2.2 w)) (h5 : x2 = 5 → post (doP S.1 S.2.1 (kd (A w)) (A w) (S.2.2.2.2.1 w) (S.2.2.1 (A w)))) (h6 : x2 = 6 → post (doP S.1 S.2.1 (kd (B w)) (B w) (S.2.2.2.2.2 w) (S.2.2.1 (B w)))) (h7 : x2 = 7 → P_X9_goes 0 (nI w) (doP S.1 S.2.1 (kd (A w)) (A w) (S.2.2.2.2.1 w) (S.2.2.1 (A w))) (doP S.1 S.2.1 (kd (B w)) (B w) (S.2.2.2.2.2 w) (S.2.2.1 (B w))) mfi slot mse post) (hx : ¬ InR x2 0 7 → post (-1)) : P_X9_wall (nI w) x2 mw mfi slot msort mse post := by
  obtain ⟨hF, hW, hAB, hkd⟩ := id hV
  obtain ⟨emw, hof, hk⟩ := id hKM
  obtain ⟨a1, a2, a3⟩ := hAB w hw
  have hne : ¬ nI (A w) = nI (B w) := fun z => a3 ((nI_eq (by omega) (by omega)).mp z)
  have g := hSM.2.2.2 w (by omega)
  rw [Nat.zero_add, Nat.zero_add, Nat.zero_add] at g
  have gl : ∀ f, f < F → slot (0 + f) = nI (S.2.2.1 f) := hSM.2.2.1
  have s34 : slot 34 = S.1 := by have := hSM.1; rw [Nat.zero_add] at this; exact this
  have s33 : slot 33 = S.2.1 := by have := hSM.2.1; rw [Nat.zero_add] at this; exact this
  unfold P_X9_wall
  refine walM_1 (by rw [emw]; exact nI_InR (by omega) hw) ⟨fun z => absurd z (by decide), fun _ => ?_⟩
  rw [cl (by omega), (hof w hw).1, (hof w hw).2]
  by_cases hi : InR x2 0 7
  · refine in_y hi (by decide +kernel) (by decide +kernel) ⟨fun _ => ⟨ni_out (by omega) (by omega), ?_⟩, fun z => absurd z (by decide)⟩
    refine does_M (b := 0) (by omega) (by omega) (by omega) (hk _ a1) (hkd _ a1) (gl _ a1) (by have := LdV_lt hL a1; omega) (h := S.2.2.2.2.1 w) (fun _ => by rw [Nat.zero_add]; exact g.2.1) (fun z => absurd (hof w hw).1 z) ?_
    refine ⟨ni_out (by omega) (by omega), ?_⟩
    refine does_M (b := 0) (by omega) (by omega) (by omega) (hk _ a2) (hkd _ a2) (gl _ a2) (by have := LdV_lt hL a2; omega) (h := S.2.2.2.2.2 w) (fun z => absurd ((hof w hw).1.symm.trans z) hne) (fun _ => by rw [Nat.zero_add]; exact g.2.2) ?_
    rw [Nat.zero_add, Nat.zero_add, s34, s33, l24, l15, l6, na, na, na, cl (by omega), cl (by omega), cl (by omega), g.1, g.2.1, g.2.2]
    refine ⟨fun a0 => ⟨fun a1 => ⟨fun a2 => ⟨fun a3 => ⟨fun a4 => ⟨fun a5 => ⟨fun a6 => ?_, h6⟩, h5⟩, fun q => ⟨ni_out (by omega) (by omega), h4 q⟩⟩, fun q => ⟨ni_out (by omega) (by omega), h3 q⟩⟩, fun q => ⟨ni_out (by omega) (by omega), h2 q⟩⟩, fun q => ⟨ni_out (by omega) (by omega), h1 q⟩⟩, fun q => ⟨ni_out (by omega) (by omega), h0 q⟩⟩
    obtain ⟨k, hk1, hk2, e⟩ := InR_c (lo := 0) (hi := 7) (by omega) (by omega) hi
    have hk : k = 7 := by
      match k, hk2 with
      | 0, _ => exact absurd e a0
      | 1, _ => exact absurd e a1
      | 2, _ => exact absurd e a2
      | 3, _ => exact absurd e a3
      | 4, _ => exact absurd e a4
      | 5, _ => exact absurd e a5
      | 6, _ => exact absurd e a6
      | 7, _ => rfl
    subst hk
    exact h7 e
  · exact in_n hi (by decide +kernel) (by decide +kernel) ⟨fun z => absurd rfl z, fun _ => hx hi⟩
theorem q_wall (h : RelX xl xt cf cw ct ck ch co ctw ctp nd ns nl np nsh us p8 ks p2 zs zw zp zd mf mw mt msort mh mfi mse mby moff slot acts keeps ml mtx seens sw sp st idl) (x1 x2 : Int32) : P_X8_wall x1 x2 cw nd ns co nsh ck nl np (fun r => P_X9_wall x1 x2 mw mfi slot msort mse (fun r' => r = r')) := by
  obtain ⟨hT, hI, F, W, T, kd, hr, A, B, tw, tp, hC, hN, hU, hK, hZ⟩ := h
  obtain ⟨hV, hF1, hW8, hT6, -, -, htw, ecf, emf, ect, emt, hKC, hKM, hhr, hrow⟩ := id hC
  obtain ⟨S, hS, hSC, hSM⟩ := hN
  obtain ⟨hF, hW, hAB, hkd⟩ := id hV
  obtain ⟨ecw, hof, hk⟩ := id hKC
  unfold P_X8_wall
  by_cases h1 : InR x1 0 (nI W - 1)
  · refine walC_1 (by rw [ecw]; exact h1) ⟨fun _ => ?_, fun z => absurd z (by decide)⟩
    obtain ⟨w, hw, rfl⟩ := InR_n (by omega) h1
    obtain ⟨a1, a2, a3⟩ := hAB w hw
    obtain ⟨g1, g2, g3⟩ := hSC.2.2.2 w (by omega)
    have hb1 := LdV_lt hS.1 a1
    have hb2 := LdV_lt hS.1 a2
    have e7 : ∀ k, k ≤ 7 → InR (nI k) 0 7 := fun k hk => ⟨nI_pos' (by omega), nI_le (b := 7) hk (by omega)⟩
    have dA : ∀ {post : Int32 → Prop}, post (doP S.1 S.2.1 (kd (A w)) (A w) (S.2.2.2.2.1 w) (S.2.2.1 (A w))) → P_X6_does (nI (2 * w)) nd ns co nsh ck nl post := fun hp => by
      refine does_C (by omega) (hof w hw).1 (by omega) (hk _ a1) (hkd _ a1) (hSC.2.2.1 _ a1) (by omega) ?_
      rw [hSC.1, hSC.2.1, g2]; exact hp
    have dB : ∀ {post : Int32 → Prop}, post (doP S.1 S.2.1 (kd (B w)) (B w) (S.2.2.2.2.2 w) (S.2.2.1 (B w))) → P_X6_does (nI (2 * w + 1)) nd ns co nsh ck nl post := fun hp => by
      refine does_C (by omega) (hof w hw).2 (by omega) (hk _ a2) (hkd _ a2) (hSC.2.2.1 _ a2) (by omega) ?_
      rw [hSC.1, hSC.2.1, g3]; exact hp
    rw [ni2s, ni2, cl (by omega), cl (by omega), cl (by omega)]
    refine ⟨fun q => ?_, fun q => ⟨ni_out (by omega) (by omega), ?_⟩, fun q => ⟨ni_out (by omega) (by omega), ?_⟩, fun q => ⟨ni_out (by omega) (by omega), ?_⟩, fun q => ⟨ni_out (by omega) (by omega), ?_⟩, fun q => ⟨ni_out (by omega) (by omega), ?_⟩, fun q => ?_, fun q => ?_, fun q => ?_⟩
    · refine wall_M hV hKM hS.1 hSM hw (fun e => ?_) (fun e => ?_) (fun e => ?_) (fun e => ?_) (fun e => ?_) (fun e => ?_) (fun e => ?_) (fun e => ?_) (fun _ => rfl)
      all_goals (subst e; exact absurd q (by decide))
    · have e := toI_eq (k := 0) (by omega) q
      subst e
      refine wall_M hV hKM hS.1 hSM hw (fun e => ?_) (fun e => ?_) (fun e => ?_) (fun e => ?_) (fun e => ?_) (fun e => ?_) (fun e => ?_) (fun e => ?_) (fun n => absurd (e7 0 (by omega)) n)
      all_goals first | exact absurd e (by decide) | exact (hof w hw).1
    · have e := toI_eq (k := 1) (by omega) q
      subst e
      refine wall_M hV hKM hS.1 hSM hw (fun e => ?_) (fun e => ?_) (fun e => ?_) (fun e => ?_) (fun e => ?_) (fun e => ?_) (fun e => ?_) (fun e => ?_) (fun n => absurd (e7 1 (by omega)) n)
      all_goals first | exact absurd e (by decide) | exact (hof w hw).2
    · have e := toI_eq (k := 2) (by omega) q
      subst e
      refine wall_M hV hKM hS.1 hSM hw (fun e => ?_) (fun e => ?_) (fun e => ?_) (fun e => ?_) (fun e => ?_) (fun e => ?_) (fun e => ?_) (fun e => ?_) (fun n => absurd (e7 2 (by omega)) n)
      all_goals first | exact absurd e (by decide) | exact congrArg (· + 50) g1
    · have e := toI_eq (k := 3) (by omega) q
      subst e
      refine wall_M hV hKM hS.1 hSM hw (fun e => ?_) (fun e => ?_) (fun e => ?_) (fun e => ?_) (fun e => ?_) (fun e => ?_) (fun e => ?_) (fun e => ?_) (fun n => absurd (e7 3 (by omega)) n)
      all_goals first | exact absurd e (by decide) | exact g2
    · have e := toI_eq (k := 4) (by omega) q
      subst e
      refine wall_M hV hKM hS.1 hSM hw (fun e => ?_) (fun e => ?_) (fun e => ?_) (fun e => ?_) (fun e => ?_) (fun e => ?_) (fun e => ?_) (fun e => ?_) (fun n => absurd (e7 4 (by omega)) n)
      all_goals first | exact absurd e (by decide) | exact g3
    · have e := toI_eq (k := 5) (by omega) q
      subst e
      refine dA ?_
      refine wall_M hV hKM hS.1 hSM hw (fun e => ?_) (fun e => ?_) (fun e => ?_) (fun e => ?_) (fun e => ?_) (fun e => ?_) (fun e => ?_) (fun e => ?_) (fun n => absurd (e7 5 (by omega)) n)
      all_goals first | exact absurd e (by decide) | rfl
    · have e := toI_eq (k := 6) (by omega) q
      subst e
      refine dB ?_
      refine wall_M hV hKM hS.1 hSM hw (fun e => ?_) (fun e => ?_) (fun e => ?_) (fun e => ?_) (fun e => ?_) (fun e => ?_) (fun e => ?_) (fun e => ?_) (fun n => absurd (e7 6 (by omega)) n)
      all_goals first | exact absurd e (by decide) | rfl
    · have e := toI_eq (k := 7) (by omega) q
      subst e
      refine dA (dB ?_)
      have fin : ∀ {x : Int32}, (∀ {post : Int32 → Prop}, post x → P_X9_goes 0 (nI w) (doP S.1 S.2.1 (kd (A w)) (A w) (S.2.2.2.2.1 w) (S.2.2.1 (A w))) (doP S.1 S.2.1 (kd (B w)) (B w) (S.2.2.2.2.2 w) (S.2.2.1 (B w))) mfi slot mse post) → P_X9_wall (nI w) (nI 7) mw mfi slot msort mse (fun r' => x = r') := fun hgo => by
        refine wall_M hV hKM hS.1 hSM hw (fun e => ?_) (fun e => ?_) (fun e => ?_) (fun e => ?_) (fun e => ?_) (fun e => ?_) (fun e => ?_) (fun e => ?_) (fun n => absurd (e7 7 (by omega)) n)
        all_goals first | exact absurd e (by decide) | exact hgo rfl
      refine losing_C (ld := S.2.2.1) (F := F) (by omega) (hof w hw) a1 a2 hF hSC.2.2.1 (fun f hf => by have := LdV_lt hS.1 hf; omega) (fun q1 => ?_) (fun q1 q2 q3 => ?_) (fun q1 q2 q3 => ?_) (fun q1 q2 q3 => ?_) (fun q1 q2 q3 => ?_)
      · refine ⟨fun z => absurd rfl z, fun _ => fin (fun hp => ?_)⟩
        exact goes_M (b := 0) (ld := S.2.2.1) (F := F) (A := A) (B := B) (by omega) (by omega) (hKM.2.1 w hw) a1 a2 hF hSM.2.2.1 (fun f hf => by have := LdV_lt hS.1 hf; omega) (fun _ => hp) (fun z => absurd q1 z) (fun z => absurd q1 z) (fun z => absurd q1 z) (fun z => absurd q1 z)
      · refine ⟨fun z => absurd rfl z, fun _ => fin (fun hp => ?_)⟩
        exact goes_M (b := 0) (ld := S.2.2.1) (F := F) (A := A) (B := B) (by omega) (by omega) (hKM.2.1 w hw) a1 a2 hF hSM.2.2.1 (fun f hf => by have := LdV_lt hS.1 hf; omega) (fun z => absurd z q1) (fun _ _ _ => hp) (fun _ _ z => absurd q3 z) (fun _ z => absurd q2 z) (fun _ z => absurd q2 z)
      · refine ⟨fun _ => ?_, fun z => absurd z (ne_m4 (by omega))⟩
        rw [cl (by omega), (hof w hw).1]
        refine ⟨ni_out (by omega) (by omega), fin (fun hp => ?_)⟩
        exact goes_M (b := 0) (ld := S.2.2.1) (F := F) (A := A) (B := B) (by omega) (by omega) (hKM.2.1 w hw) a1 a2 hF hSM.2.2.1 (fun f hf => by have := LdV_lt hS.1 hf; omega) (fun z => absurd z q1) (fun _ _ z => absurd z q3) (fun _ _ _ => hp) (fun _ z => absurd q2 z) (fun _ z => absurd q2 z)
      · refine ⟨fun z => absurd rfl z, fun _ => fin (fun hp => ?_)⟩
        exact goes_M (b := 0) (ld := S.2.2.1) (F := F) (A := A) (B := B) (by omega) (by omega) (hKM.2.1 w hw) a1 a2 hF hSM.2.2.1 (fun f hf => by have := LdV_lt hS.1 hf; omega) (fun z => absurd z q1) (fun _ z => absurd z q2) (fun _ z => absurd z q2) (fun _ _ _ => hp) (fun _ _ z => absurd q3 z)
      · refine ⟨fun _ => ?_, fun z => absurd z (ne_m4 (by omega))⟩
        rw [cl (by omega), (hof w hw).2]
        refine ⟨ni_out (by omega) (by omega), fin (fun hp => ?_)⟩
        exact goes_M (b := 0) (ld := S.2.2.1) (F := F) (A := A) (B := B) (by omega) (by omega) (hKM.2.1 w hw) a1 a2 hF hSM.2.2.1 (fun f hf => by have := LdV_lt hS.1 hf; omega) (fun z => absurd z q1) (fun _ z => absurd z q2) (fun _ z => absurd z q2) (fun _ _ z => absurd z q3) (fun _ _ _ => hp)
  · refine walC_0 (by rw [ecw]; exact h1) ⟨fun z => absurd rfl z, fun _ => ?_⟩
    unfold P_X9_wall
    exact walM_0 (by rw [hKM.1]; exact h1) ⟨fun _ => rfl, fun z => absurd rfl z⟩
end
