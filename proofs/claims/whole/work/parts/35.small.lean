/-! each method: the class does as the reference -/
section
variable {xl : Int32} {xt : Nat → Int32} {cf cw ct : Int32} {ck ch co ctw ctp : Nat → Int32} {nd ns : Int32} {nl np nsh : Nat → Int32} {us : Int32} {p8 : Nat → SVt} {ks : Int32} {p2 : Nat → SVt} {zs : Int32} {zw zp zd : Nat → Int32}
variable {mf mw mt : Int32} {msort mh mfi mse mby moff slot : Nat → Int32} {acts keeps ml : Int32} {mtx : Nat → Int32} {seens : Int32} {sw sp st : Nat → Int32} {idl : Int32}
theorem in_y {x lo hi : Int32} {lo' hi' : Int64} {post : Int32 → Prop} (h : InR x lo hi) (e1 : lo' = lo.toInt64) (e2 : hi' = hi.toInt64) (hp : post 1) : P_X9_in x.toInt64 lo' hi' post := by
  subst e1; subst e2; exact in_1 h hp
theorem in_n {x lo hi : Int32} {lo' hi' : Int64} {post : Int32 → Prop} (h : ¬ InR x lo hi) (e1 : lo' = lo.toInt64) (e2 : hi' = hi.toInt64) (hp : post 0) : P_X9_in x.toInt64 lo' hi' post := by
  subst e1; subst e2; exact in_0 h hp
theorem e64_0 : (0 : Int64) = (0 : Int32).toInt64 := by decide +kernel
theorem famC_1 {x : Int32} {post : Int32 → Prop} (h : InR x 0 (cf - 1)) (hp : post 1) : P_X8_isFamily x cf post := within_1 h ⟨zb1, hp⟩
theorem famC_0 {x : Int32} {post : Int32 → Prop} (h : ¬ InR x 0 (cf - 1)) (hp : post 0) : P_X8_isFamily x cf post := within_0 h ⟨zb0, hp⟩
theorem walC_1 {x : Int32} {post : Int32 → Prop} (h : InR x 0 (cw - 1)) (hp : post 1) : P_X8_isWall x cw post := within_1 h ⟨zb1, hp⟩
theorem walC_0 {x : Int32} {post : Int32 → Prop} (h : ¬ InR x 0 (cw - 1)) (hp : post 0) : P_X8_isWall x cw post := within_0 h ⟨zb0, hp⟩
theorem treC_1 {x : Int32} {post : Int32 → Prop} (h : InR x 0 (ct - 1)) (hp : post 1) : P_X8_isTree x ct post := within_1 h ⟨zb1, hp⟩
theorem treC_0 {x : Int32} {post : Int32 → Prop} (h : ¬ InR x 0 (ct - 1)) (hp : post 0) : P_X8_isTree x ct post := within_0 h ⟨zb0, hp⟩
theorem famM_1 {x : Int32} {post : Int32 → Prop} (h : InR x 0 (mf - 1)) (hp : post 1) : P_X9_isFamily x mf post := in_y h e64_0 rfl ⟨zb1, hp⟩
theorem famM_0 {x : Int32} {post : Int32 → Prop} (h : ¬ InR x 0 (mf - 1)) (hp : post 0) : P_X9_isFamily x mf post := in_n h e64_0 rfl ⟨zb0, hp⟩
theorem walM_1 {x : Int32} {post : Int32 → Prop} (h : InR x 0 (mw - 1)) (hp : post 1) : P_X9_isWall x mw post := in_y h e64_0 rfl ⟨zb1, hp⟩
theorem walM_0 {x : Int32} {post : Int32 → Prop} (h : ¬ InR x 0 (mw - 1)) (hp : post 0) : P_X9_isWall x mw post := in_n h e64_0 rfl ⟨zb0, hp⟩
theorem l9 : (9 : Int32) = nI 9 := rfl
theorem l35 : (35 : Int32) = nI 35 := rfl
theorem chr_eq : ∀ c, c < 127 → vp_nar .char (((nI c).toUInt32 % 65536).toInt32) = nI c ∧ vp_nar .byte (((nI c).toInt8).toInt32) = nI c := by decide +kernel
theorem q_write (h : RelX xl xt cf cw ct ck ch co ctw ctp nd ns nl np nsh us p8 ks p2 zs zw zp zd mf mw mt msort mh mfi mse mby moff slot acts keeps ml mtx seens sw sp st idl) (x : Int32) : P_X8_write x xl xt (fun r xl' xt' => P_X9_write x ml mtx (fun r' ml' mtx' => r = r' ∧ RelX xl' xt' cf cw ct ck ch co ctw ctp nd ns nl np nsh us p8 ks p2 zs zw zp zd mf mw mt msort mh mfi mse mby moff slot acts keeps ml' mtx' seens sw sp st idl)) := by
  obtain ⟨⟨n, hn, rfl, rfl, ht⟩, hr⟩ := h
  unfold P_X8_write P_X9_write
  by_cases hx : InR x 32 126
  · refine within_1 hx ⟨fun _ => ?_, fun z => absurd z (by decide)⟩
    obtain ⟨c, hc1, hc2, e⟩ := InR_c (lo := 32) (hi := 126) (by omega) (by omega) hx
    have hch := chr_eq c (by omega)
    unfold P_X4_append
    rw [e, hch.1, hch.2, cl (by omega), nI_1]
    rw [e] at hx
    refine ⟨fun q => ?_, fun q => ?_⟩
    · have hlt : n < 200 := (nI_ltI (a := n) (b := 200) (by omega) (by omega)).mp q
      refine ⟨ni_out hlt (by omega), fun z => absurd z (by decide), fun _ => ?_⟩
      refine in_y hx (by decide +kernel) (by decide +kernel) ⟨fun _ => ⟨fun _ => ⟨ni_out hlt (by omega), rfl, ⟨n + 1, by omega, rfl, rfl, fun i hi => ?_⟩, hr⟩, fun z => ?_⟩, fun z => absurd z (by decide)⟩
      · by_cases ei : i = n
        · subst ei; exact ⟨c, hc1, hc2, pk_us, pk_us⟩
        · rw [pk_un ei, pk_un ei]; exact ht i (by omega)
      · exact absurd ((nI_eq (a := n) (b := 200) (by omega) (by omega)).mp z) (by omega)
    · have hlt : n = 200 := by have : ¬ n < 200 := fun e => q ((nI_ltI (a := n) (b := 200) (by omega) (by omega)).mpr e); omega
      subst hlt
      refine ⟨fun _ => ?_, fun z => absurd rfl z⟩
      exact in_y hx (by decide +kernel) (by decide +kernel) ⟨fun _ => ⟨fun z => absurd rfl z, fun _ => ⟨rfl, ⟨200, by omega, rfl, rfl, ht⟩, hr⟩⟩, fun z => absurd z (by decide)⟩
  · refine within_0 hx ⟨fun z => absurd rfl z, fun _ => ?_⟩
    exact in_n hx (by decide +kernel) (by decide +kernel) ⟨fun z => absurd rfl z, fun _ => ⟨rfl, ⟨n, hn, rfl, rfl, ht⟩, hr⟩⟩
theorem q_wipe (h : RelX xl xt cf cw ct ck ch co ctw ctp nd ns nl np nsh us p8 ks p2 zs zw zp zd mf mw mt msort mh mfi mse mby moff slot acts keeps ml mtx seens sw sp st idl) : P_X8_wipe xl (fun r xl' => P_X9_wipe ml (fun r' ml' => r = r' ∧ RelX xl' xt cf cw ct ck ch co ctw ctp nd ns nl np nsh us p8 ks p2 zs zw zp zd mf mw mt msort mh mfi mse mby moff slot acts keeps ml' mtx seens sw sp st idl)) := by
  obtain ⟨⟨n, hn, rfl, rfl, ht⟩, hr⟩ := h
  unfold P_X8_wipe P_X9_wipe
  exact ⟨rfl, ⟨0, by omega, rfl, rfl, fun i hi => by omega⟩, hr⟩
theorem q_forget (h : RelX xl xt cf cw ct ck ch co ctw ctp nd ns nl np nsh us p8 ks p2 zs zw zp zd mf mw mt msort mh mfi mse mby moff slot acts keeps ml mtx seens sw sp st idl) : P_X8_forget zs (fun r zs' => P_X9_forget seens (fun r' seens' => r = r' ∧ RelX xl xt cf cw ct ck ch co ctw ctp nd ns nl np nsh us p8 ks p2 zs' zw zp zd mf mw mt msort mh mfi mse mby moff slot acts keeps ml mtx seens' sw sp st idl)) := by
  obtain ⟨hT, hI, F, W, T, kd, hr, A, B, tw, tp, hC, hN, hU, hK, ⟨z, hz, rfl, rfl, hs⟩⟩ := h
  unfold P_X8_forget P_X9_forget
  exact ⟨rfl, hT, hI, F, W, T, kd, hr, A, B, tw, tp, hC, hN, hU, hK, ⟨0, by omega, rfl, rfl, fun i hi => by omega⟩⟩
theorem q_keep (h : RelX xl xt cf cw ct ck ch co ctw ctp nd ns nl np nsh us p8 ks p2 zs zw zp zd mf mw mt msort mh mfi mse mby moff slot acts keeps ml mtx seens sw sp st idl) : P_X8_keep ks p2 nd ns nl np nsh (fun r ks' p2' => P_X9_keep keeps slot (fun r' keeps' slot' => r = r' ∧ RelX xl xt cf cw ct ck ch co ctw ctp nd ns nl np nsh us p8 ks' p2' zs zw zp zd mf mw mt msort mh mfi mse mby moff slot' acts keeps' ml mtx seens sw sp st idl)) := by
  obtain ⟨hT, hI, F, W, T, kd, hr, A, B, tw, tp, hC, hN, hU, ⟨u, hu, rfl, rfl, hk⟩, hZ⟩ := h
  have hF := hC.1.1
  unfold P_X8_keep P_X9_keep
  refine isFull2_C hu (fun q => ⟨fun z => absurd z (by decide), fun _ => ?_⟩) (fun q => ⟨fun _ => ?_, fun z => absurd rfl z⟩)
  · subst q
    exact ⟨fun z => absurd rfl z, fun _ => ⟨rfl, hT, hI, F, W, T, kd, hr, A, B, tw, tp, hC, hN, hU, ⟨2, by omega, rfl, rfl, hk⟩, hZ⟩⟩
  · refine put2_C q ⟨fun _ => ?_, fun z => absurd ((nI_eq (a := u) (b := 2) (by omega) (by omega)).mp z) (by omega)⟩
    have e : ((9 : Int32) + nI u) * 35 = nI ((9 + u) * 35) := by rw [l9, na, l35, pk_mul]
    rw [e, nI_1]
    refine copies_M (a := 0) (b := (9 + u) * 35) (by omega) (by omega) (by omega) (fun slot' e1 e2 => ?_)
    refine ⟨rfl, hT, hI, F, W, T, kd, hr, A, B, tw, tp, hC, RSt_row hF hN (fun k hk => e2 _ (by omega)), RUn_row hF hU (fun j ha hb => e2 j (by omega)), ⟨u + 1, by omega, rfl, rfl, fun k hku => ?_⟩, hZ⟩
    by_cases ek : k = u
    · subst ek
      have e3 : va_up p2 k (svOf nd ns nl np nsh (p2 k)) k = svOf nd ns nl np nsh (p2 k) := by simp [va_up]
      show RSv F W (va_up p2 k (svOf nd ns nl np nsh (p2 k)) k) slot' _
      rw [e3]
      exact RSt_cpy hF _ (RSt_to hF hN (fun j hj => by rw [show 35 * (9 + k) + j = (9 + k) * 35 + j by omega]; exact e1 j hj))
    · have e3 : va_up p2 u (svOf nd ns nl np nsh (p2 u)) k = p2 k := by simp [va_up, ek]
      show RSv F W (va_up p2 u (svOf nd ns nl np nsh (p2 u)) k) slot' _
      rw [e3]
      exact RSt_row hF (hk k (by omega)) (fun j hj => e2 _ (by omega))
theorem RSt_take {F W a b : Nat} {v : SVt} {g1 g2 g3 slot slot' : Nat → Int32} (hF : F ≤ 6) (h : RSv F W v slot a) (e : ∀ k, k < 35 → slot' (b + k) = slot (a + k)) : RSt F W v.1 v.2.1 (va_cpy v.2.2.1 g1 0 0 6) (va_cpy v.2.2.2.1 g2 0 0 9) (va_cpy v.2.2.2.2 g3 0 0 18) slot' b := by
  obtain ⟨S, h1, h2, h3⟩ := h
  exact ⟨S, h1, StC_copy hF h2, StM_at hF h3 e⟩
theorem q_back (h : RelX xl xt cf cw ct ck ch co ctw ctp nd ns nl np nsh us p8 ks p2 zs zw zp zd mf mw mt msort mh mfi mse mby moff slot acts keeps ml mtx seens sw sp st idl) : P_X8_back ks p2 nd ns nl np nsh us (fun r ks' nd' ns' nl' np' nsh' us' => P_X9_back acts keeps slot (fun r' acts' keeps' slot' => r = r' ∧ RelX xl xt cf cw ct ck ch co ctw ctp nd' ns' nl' np' nsh' us' p8 ks' p2 zs zw zp zd mf mw mt msort mh mfi mse mby moff slot' acts' keeps' ml mtx seens sw sp st idl)) := by
  obtain ⟨hT, hI, F, W, T, kd, hr, A, B, tw, tp, hC, hN, hU, ⟨u, hu, rfl, rfl, hk⟩, hZ⟩ := h
  have hF := hC.1.1
  unfold P_X8_back P_X9_back
  refine take2_C hu (fun q => ?_) (fun k q => ?_)
  · subst q
    exact ⟨fun z => absurd rfl z, fun _ => ⟨fun z => absurd rfl z, fun _ => ⟨rfl, hT, hI, F, W, T, kd, hr, A, B, tw, tp, hC, hN, hU, ⟨0, by omega, rfl, rfl, fun k hk => by omega⟩, hZ⟩⟩⟩
  · subst q
    refine ⟨fun _ => ⟨fun _ => ?_, fun z => absurd ((nI_eq (a := k + 1) (b := 0) (by omega) (by omega)).mp z) (by omega)⟩, fun z => absurd z (by decide)⟩
    rw [ni_m1 (a := k + 1) (by omega), Nat.add_sub_cancel]
    have e : ((9 : Int32) + nI k) * 35 = nI ((9 + k) * 35) := by rw [l9, na, l35, pk_mul]
    rw [e]
    refine copies_M (a := (9 + k) * 35) (b := 0) (by omega) (by omega) (by omega) (fun slot' e1 e2 => ?_)
    exact ⟨rfl, hT, hI, F, W, T, kd, hr, A, B, tw, tp, hC, RSt_take hF (hk k (by omega)) (fun j hj => by rw [show 35 * (9 + k) + j = (9 + k) * 35 + j by omega]; exact e1 j hj), ⟨0, by omega, rfl, rfl, fun k hk => by omega⟩, ⟨k, by omega, rfl, rfl, fun k' hk' => RSt_row hF (hk k' (by omega)) (fun j hj => e2 _ (by omega))⟩, hZ⟩
theorem q_undo (h : RelX xl xt cf cw ct ck ch co ctw ctp nd ns nl np nsh us p8 ks p2 zs zw zp zd mf mw mt msort mh mfi mse mby moff slot acts keeps ml mtx seens sw sp st idl) : P_X8_undo us p8 nd ns nl np nsh (fun r us' nd' ns' nl' np' nsh' => P_X9_undo acts slot (fun r' acts' slot' => r = r' ∧ RelX xl xt cf cw ct ck ch co ctw ctp nd' ns' nl' np' nsh' us' p8 ks p2 zs zw zp zd mf mw mt msort mh mfi mse mby moff slot' acts' keeps ml mtx seens sw sp st idl)) := by
  obtain ⟨hT, hI, F, W, T, kd, hr, A, B, tw, tp, hC, hN, ⟨u, hu, rfl, rfl, hk⟩, hK, hZ⟩ := h
  have hF := hC.1.1
  unfold P_X8_undo P_X9_undo
  refine take8_C hu (fun q => ?_) (fun k q => ?_)
  · subst q
    exact ⟨fun _ => ⟨fun z => absurd rfl z, fun _ => ⟨rfl, hT, hI, F, W, T, kd, hr, A, B, tw, tp, hC, hN, ⟨0, by omega, rfl, rfl, fun k hk => by omega⟩, hK, hZ⟩⟩, fun z => absurd rfl z⟩
  · subst q
    refine ⟨fun z => absurd z (by decide), fun _ => ⟨fun _ => ?_, fun z => absurd ((nI_eq (a := k + 1) (b := 0) (by omega) (by omega)).mp z) (by omega)⟩⟩
    rw [ni_m1 (a := k + 1) (by omega), Nat.add_sub_cancel]
    have e : nI (k + 1) * 35 = nI ((k + 1) * 35) := by rw [l35, pk_mul]
    rw [e]
    refine copies_M (a := (k + 1) * 35) (b := 0) (by omega) (by omega) (by omega) (fun slot' e1 e2 => ?_)
    exact ⟨rfl, hT, hI, F, W, T, kd, hr, A, B, tw, tp, hC, RSt_take hF (hk k (by omega)) (fun j hj => by rw [show 35 * (k + 1) + j = (k + 1) * 35 + j by omega]; exact e1 j hj), ⟨k, by omega, rfl, rfl, fun k' hk' => RSt_row hF (hk k' (by omega)) (fun j hj => e2 _ (by omega))⟩, RKe_row hF hK (fun j ha hb => e2 j (by omega)), hZ⟩
theorem q_see (h : RelX xl xt cf cw ct ck ch co ctw ctp nd ns nl np nsh us p8 ks p2 zs zw zp zd mf mw mt msort mh mfi mse mby moff slot acts keeps ml mtx seens sw sp st idl) (x1 x2 x3 : Int32) : P_X8_see x1 x2 x3 cw zs zw zp zd (fun r zs' zw' zp' zd' => P_X9_see x1 x2 x3 mw seens sw sp st (fun r' seens' sw' sp' st' => r = r' ∧ RelX xl xt cf cw ct ck ch co ctw ctp nd ns nl np nsh us p8 ks p2 zs' zw' zp' zd' mf mw mt msort mh mfi mse mby moff slot acts keeps ml mtx seens' sw' sp' st' idl)) := by
  obtain ⟨hT, hI, F, W, T, kd, hr, A, B, tw, tp, hC, hN, hU, hK, ⟨z, hz, rfl, rfl, hs⟩⟩ := h
  obtain ⟨hV, hF1, hW8, -, -, -, -, -, -, -, -, hKC, hKM, -⟩ := id hC
  have same : ∀ r : Int32, r = r ∧ RelX xl xt cf cw ct ck ch co ctw ctp nd ns nl np nsh us p8 ks p2 (nI z) zw zp zd mf mw mt msort mh mfi mse mby moff slot acts keeps ml mtx (nI z) sw sp st idl := fun r => ⟨rfl, hT, hI, F, W, T, kd, hr, A, B, tw, tp, hC, hN, hU, hK, ⟨z, hz, rfl, rfl, hs⟩⟩
  unfold P_X8_see P_X9_see
  have ecw := hKC.1
  have emw := hKM.1
  by_cases h1 : InR x1 0 (nI W - 1)
  · refine walC_1 (by rw [ecw]; exact h1) ⟨fun z => absurd z (by decide), fun _ => ?_⟩
    by_cases h2 : InR x2 0 99
    · refine within_1 h2 ⟨fun z => absurd z (by decide), fun _ => ?_⟩
      by_cases h3 : InR x3 1 30
      · refine within_1 h3 ⟨fun _ => ?_, fun z => absurd z (by decide)⟩
        obtain ⟨w, hw, e1⟩ := InR_n (by omega) h1
        obtain ⟨t, ht1, ht2, e3⟩ := InR_c (lo := 1) (hi := 30) (by omega) (by omega) h3
        unfold P_X5_add
        refine ⟨fun q => ?_, fun q => ?_⟩
        · have hlt : z < 6 := (nI_ltI (a := z) (b := 6) (by omega) (by omega)).mp q
          refine ⟨ni_out hlt (by omega), ni_out hlt (by omega), ni_out hlt (by omega), fun z => absurd z (by decide), fun _ => ?_⟩
          refine walM_1 (by rw [emw]; exact h1) ⟨fun z => absurd z (by decide), fun _ => in_y h2 (by decide +kernel) (by decide +kernel) ⟨fun z => absurd z (by decide), fun _ => in_y h3 (by decide +kernel) (by decide +kernel) ⟨fun _ => ⟨fun _ => ⟨ni_out hlt (by omega), ni_out hlt (by omega), ni_out hlt (by omega), ?_⟩, fun q2 => ?_⟩, fun z => absurd z (by decide)⟩⟩⟩
          · rw [cl (by omega), nI_1]
            refine ⟨rfl, hT, hI, F, W, T, kd, hr, A, B, tw, tp, hC, hN, hU, hK, ⟨z + 1, by omega, rfl, rfl, fun i hi => ?_⟩⟩
            by_cases ei : i = z
            · subst ei; rw [pk_us, pk_us, pk_us, pk_us, pk_us, pk_us]; exact ⟨⟨w, hw, e1, e1⟩, rfl, ⟨t, ht1, ht2, e3, e3⟩⟩
            · rw [pk_un ei, pk_un ei, pk_un ei, pk_un ei, pk_un ei, pk_un ei]; exact hs i (by omega)
          · exact absurd ((nI_eq (a := z) (b := 6) (by omega) (by omega)).mp q2) (by omega)
        · have hlt : z = 6 := by have : ¬ z < 6 := fun e => q ((nI_ltI (a := z) (b := 6) (by omega) (by omega)).mpr e); omega
          subst hlt
          refine ⟨fun _ => ?_, fun z => absurd rfl z⟩
          exact walM_1 (by rw [emw]; exact h1) ⟨fun z => absurd z (by decide), fun _ => in_y h2 (by decide +kernel) (by decide +kernel) ⟨fun z => absurd z (by decide), fun _ => in_y h3 (by decide +kernel) (by decide +kernel) ⟨fun _ => ⟨fun z => absurd rfl z, fun _ => same _⟩, fun z => absurd z (by decide)⟩⟩⟩
      · refine within_0 h3 ⟨fun z => absurd rfl z, fun _ => ?_⟩
        exact walM_1 (by rw [emw]; exact h1) ⟨fun z => absurd z (by decide), fun _ => in_y h2 (by decide +kernel) (by decide +kernel) ⟨fun z => absurd z (by decide), fun _ => in_n h3 (by decide +kernel) (by decide +kernel) ⟨fun z => absurd rfl z, fun _ => same _⟩⟩⟩
    · refine within_0 h2 ⟨fun _ => ?_, fun z => absurd rfl z⟩
      exact walM_1 (by rw [emw]; exact h1) ⟨fun z => absurd z (by decide), fun _ => in_n h2 (by decide +kernel) (by decide +kernel) ⟨fun _ => same _, fun z => absurd rfl z⟩⟩
  · refine walC_0 (by rw [ecw]; exact h1) ⟨fun _ => ?_, fun z => absurd rfl z⟩
    exact walM_0 (by rw [emw]; exact h1) ⟨fun _ => same _, fun z => absurd rfl z⟩
theorem bit_eq : ∀ m, m < 64 → ∀ f, f < 6 → ((nI m >>> (nI f &&& 31)) &&& 1 = 0 ∨ (nI m >>> (nI f &&& 31)) &&& 1 = 1) := by decide +kernel
theorem turn_eq : ∀ F, F < 7 → ∀ m, m < 2 ^ F → ∀ f, f < F → nI m ^^^ (1 <<< (nI f &&& 31)) = nI (m ^^^ 2 ^ f) ∧ m ^^^ 2 ^ f < 2 ^ F := by decide +kernel
/-- a sickness turned -/
theorem RSt_turn {F W b f m : Nat} {d s : Int32} {l p sh slot : Nat → Int32} (hF : F ≤ 6) (hf : f < F) (h : RSt F W d s l p sh slot b) : RSt F W d (s ^^^ (1 <<< (nI f &&& 31))) l p sh (upd slot (b + 33) (slot (b + 33) ^^^ (1 <<< (nI f &&& 31)))) b := by
  obtain ⟨⟨S1, S2, S3, S4, S5, S6⟩, ⟨h1, h2, h3, m, hm, e⟩, ⟨g1, g2, g3, g4⟩, ⟨k1, k2, k3, k4⟩⟩ := h
  dsimp only at *
  obtain ⟨t1, t2⟩ := turn_eq F (by omega) m hm f hf
  refine ⟨(S1, nI (m ^^^ 2 ^ f), S3, S4, S5, S6), ⟨h1, h2, h3, _, t2, rfl⟩, ⟨g1, by rw [g2, e, t1], g3, g4⟩, ⟨?_, ?_, fun g hg => ?_, fun w hw => ⟨?_, ?_, ?_⟩⟩⟩
  · rw [pk_un (by omega)]; exact k1
  · rw [pk_us, k2, e, t1]
  · rw [pk_un (by omega)]; exact k3 g hg
  · rw [pk_un (by omega)]; exact (k4 w hw).1
  · rw [pk_un (by omega)]; exact (k4 w hw).2.1
  · rw [pk_un (by omega)]; exact (k4 w hw).2.2
theorem RSt_m {F W b : Nat} {d s : Int32} {l p sh slot : Nat → Int32} (h : RSt F W d s l p sh slot b) : ∃ m, m < 2 ^ F ∧ s = nI m ∧ slot (b + 33) = nI m := by
  obtain ⟨S, ⟨h1, h2, h3, m, hm, e⟩, ⟨g1, g2, g3, g4⟩, ⟨k1, k2, k3, k4⟩⟩ := h
  exact ⟨m, hm, by rw [g2, e], by rw [k2, e]⟩
theorem p2F {F m : Nat} (hF : F ≤ 6) (h : m < 2 ^ F) : m < 64 := Nat.lt_of_lt_of_le h (Nat.pow_le_pow_right (by omega) hF)
theorem q_sick (h : RelX xl xt cf cw ct ck ch co ctw ctp nd ns nl np nsh us p8 ks p2 zs zw zp zd mf mw mt msort mh mfi mse mby moff slot acts keeps ml mtx seens sw sp st idl) (x : Int32) : P_X8_sick x cf us p8 nd ns nl np nsh (fun r us' p8' ns' => P_X9_sick x mf acts slot (fun r' acts' slot' => r = r' ∧ RelX xl xt cf cw ct ck ch co ctw ctp nd ns' nl np nsh us' p8' ks p2 zs zw zp zd mf mw mt msort mh mfi mse mby moff slot' acts' keeps ml mtx seens sw sp st idl)) := by
  obtain ⟨hT, hI, F, W, T, kd, hr, A, B, tw, tp, hC, hN, ⟨u, hu, rfl, rfl, hk⟩, hK, hZ⟩ := h
  have hF := hC.1.1
  obtain ⟨hV, hF1, hW8, -, -, -, -, ecf, emf, -⟩ := id hC
  unfold P_X8_sick P_X9_sick
  by_cases h1 : InR x 0 (nI F - 1)
  · refine famC_1 (by rw [ecf]; exact h1) ⟨fun _ => ?_, fun z => absurd z (by decide)⟩
    obtain ⟨f, hf, e1⟩ := InR_n (by omega) h1
    refine put8_C hu ?_
    unfold P_X6_turnSickness P_X6_isSick
    have hgo : ∀ r, (∀ slot', KnP u slot slot' → r = ((slot' 33 ^^^ (1 <<< (x &&& 31))) >>> (x &&& 31)) &&& 1) → P_X9_isFamily x mf (fun r2 => (¬ r2 = 0 → P_X9_known (nI u) slot (fun t_acts_11 t_slot_11 => vp_in 33 420 ∧ (vp_in 33 420 ∧ (vp_in 33 420 ∧ (r = ((((upd t_slot_11 (33 : Int32).toNatClampNeg ((t_slot_11 (33 : Int32).toNatClampNeg) ^^^ (1 <<< (x &&& 31)))) (33 : Int32).toNatClampNeg) >>> (x &&& 31)) &&& 1) ∧ RelX xl xt cf cw ct ck ch co ctw ctp nd (ns ^^^ (1 <<< (x &&& 31))) nl np nsh (nI (putN u)) (putP u p8 nd ns nl np nsh) ks p2 zs zw zp zd mf mw mt msort mh mfi mse mby moff (upd t_slot_11 (33 : Int32).toNatClampNeg ((t_slot_11 (33 : Int32).toNatClampNeg) ^^^ (1 <<< (x &&& 31)))) t_acts_11 keeps ml mtx seens sw sp st idl))))) ∧ (r2 = 0 → r = -1 ∧ RelX xl xt cf cw ct ck ch co ctw ctp nd (ns ^^^ (1 <<< (x &&& 31))) nl np nsh (nI (putN u)) (putP u p8 nd ns nl np nsh) ks p2 zs zw zp zd mf mw mt msort mh mfi mse mby moff slot (nI u) keeps ml mtx seens sw sp st idl)) := by
      intro r hr'
      refine famM_1 (by rw [emf]; exact h1) ⟨fun _ => ?_, fun z => absurd z (by decide)⟩
      refine known_M hu (fun slot' hkn => ?_)
      have c33 : (33 : Int32).toNatClampNeg = 33 := rfl
      rw [c33, pk_us]
      refine ⟨ni_out (n := 33) (by omega) (by omega), ni_out (n := 33) (by omega) (by omega), ni_out (n := 33) (by omega) (by omega), hr' slot' hkn, hT, hI, F, W, T, kd, hr, A, B, tw, tp, hC, ?_, ?_, ?_, hZ⟩
      · have hN' := RSt_row hF hN (slot' := slot') (fun k hk => hkn.2.1 _ (by omega))
        have := RSt_turn (m := 0) hF hf hN'
        rw [e1]; rw [Nat.zero_add] at this; exact this
      · have := RUn_put hF hu hN hk hkn
        exact RUn_row hF this (fun j ha hb => pk_un (by omega))
      · exact RKe_row hF hK (fun j ha hb => by rw [pk_un (by omega)]; exact hkn.2.1 j (by omega))
    obtain ⟨m, hm, em1, em2⟩ := RSt_m hN
    rw [Nat.zero_add] at em2
    have hz : ∀ slot', KnP u slot slot' → (slot' 33 ^^^ (1 <<< (x &&& 31))) = (ns ^^^ (1 <<< (x &&& 31))) := fun slot' hkn => by rw [hkn.2.1 33 (by omega), em1, em2]
    have hb : ((ns ^^^ (1 <<< (x &&& 31))) >>> (x &&& 31)) &&& 1 = 0 ∨ ((ns ^^^ (1 <<< (x &&& 31))) >>> (x &&& 31)) &&& 1 = 1 := by
      rw [em1, e1, (turn_eq F (by omega) m hm f hf).1]
      exact bit_eq _ (p2F hF (turn_eq F (by omega) m hm f hf).2) f (by omega)
    refine ⟨fun q => ⟨fun _ => hgo 0 (fun slot' hkn => ?_), fun z => absurd rfl z⟩, fun q => ⟨fun z => absurd z (by decide), fun _ => hgo 1 (fun slot' hkn => ?_)⟩⟩
    · rw [hz slot' hkn]
      rcases hb with hb | hb
      · exact hb.symm
      · exact absurd hb q
    · rw [hz slot' hkn]; exact q.symm
  · refine famC_0 (by rw [ecf]; exact h1) ⟨fun z => absurd rfl z, fun _ => ?_⟩
    exact famM_0 (by rw [emf]; exact h1) ⟨fun z => absurd rfl z, fun _ => ⟨rfl, hT, hI, F, W, T, kd, hr, A, B, tw, tp, hC, hN, ⟨u, hu, rfl, rfl, hk⟩, hK, hZ⟩⟩
/-! days keep what is so -/
theorem dayS_StV {F W : Nat} {kd A B : Nat → Nat} {idle : Int32} {S : St} (hV : CoV F W kd A B) (h : StV F W S) : StV F W (dayS W kd A B idle S) := by
  obtain ⟨h1, h2, h3, h4⟩ := h
  refine ⟨dayS_LdV hV h1, fun w hw hw9 => ⟨?_, (h2 w hw hw9).2⟩, h3, h4⟩
  show (dayR W kd A B idle S).2.1 w = 0
  rw [dayR, runW_far _ W w hw]
  exact (h2 w hw hw9).1
theorem dayN_StV {F W : Nat} {kd A B : Nat → Nat} {S : St} (hV : CoV F W kd A B) (h : StV F W S) : ∀ n, StV F W (dayN W kd A B n S) := by
  intro n
  induction n with
  | zero => exact h
  | succ n ih => exact dayS_StV hV ih
theorem q_pass (h : RelX xl xt cf cw ct ck ch co ctw ctp nd ns nl np nsh us p8 ks p2 zs zw zp zd mf mw mt msort mh mfi mse mby moff slot acts keeps ml mtx seens sw sp st idl) (x : Int32) {did d1 d2 : Nat → Int32} : P_X8_pass x us p8 nd ns nl np nsh cw co did ck (fun r us' p8' nd' nl' np' _ => P_X9_pass x mw acts idl slot mfi d1 mse d2 msort (fun r' acts' slot' _ _ => r = r' ∧ RelX xl xt cf cw ct ck ch co ctw ctp nd' ns nl' np' nsh us' p8' ks p2 zs zw zp zd mf mw mt msort mh mfi mse mby moff slot' acts' keeps ml mtx seens sw sp st idl)) := by
  obtain ⟨hT, hI, F, W, T, kd, hr, A, B, tw, tp, hC, hN, ⟨u, hu, rfl, rfl, hk⟩, hK, hZ⟩ := h
  have hF := hC.1.1
  obtain ⟨hV, hF1, hW8, -, -, -, -, ecf, emf, -, -, hKC, hKM, -⟩ := id hC
  unfold P_X8_pass P_X9_pass
  by_cases h1 : InR x 1 30
  · refine within_1 h1 ⟨fun _ => ?_, fun z => absurd z (by decide)⟩
    obtain ⟨n, hn1, hn2, rfl⟩ := InR_c (lo := 1) (hi := 30) (by omega) (by omega) h1
    refine put8_C hu ⟨n + 1, ?_⟩
    obtain ⟨S, hS, hSC, hSM⟩ := id hN
    have key : ∀ k i d l p di, i + k = n → StC F (dayN W kd A B i S) d ns l p nsh → P_X8_pass_L25 ns nsh cw co ck (fun r us' p8' nd' nl' np' _ => P_X9_in (nI n).toInt64 1 30 (fun r6 => (¬ r6 = 0 → P_X9_known (nI u) slot (fun t_acts_15 t_slot_15 => P_X9_passesBy 0 (nI n) mw idl mfi d1 mse d2 t_slot_15 msort (fun r21 t_didOne_21 t_didTwo_21 t_slot_21 => (0 ≤ r21 → vp_in 34 420 ∧ (r = t_slot_21 (34 : Int32).toNatClampNeg ∧ RelX xl xt cf cw ct ck ch co ctw ctp nd' ns nl' np' nsh us' p8' ks p2 zs zw zp zd mf mw mt msort mh mfi mse mby moff t_slot_21 t_acts_15 keeps ml mtx seens sw sp st idl)) ∧ (¬ 0 ≤ r21 → r = -2 ∧ RelX xl xt cf cw ct ck ch co ctw ctp nd' ns nl' np' nsh us' p8' ks p2 zs zw zp zd mf mw mt msort mh mfi mse mby moff t_slot_21 t_acts_15 keeps ml mtx seens sw sp st idl)))) ∧ (r6 = 0 → r = -1 ∧ RelX xl xt cf cw ct ck ch co ctw ctp nd' ns nl' np' nsh us' p8' ks p2 zs zw zp zd mf mw mt msort mh mfi mse mby moff slot (nI u) keeps ml mtx seens sw sp st idl))) (k + 1) (nI n) (nI i) (nI (putN u)) (putP u p8 nd ns nl np nsh) d l p di := by
      intro k
      induction k with
      | zero =>
        intro i d l p di hi hs
        have e : i = n := by omega
        subst e
        rw [P_X8_pass_L25]
        refine ⟨fun _ => ?_, fun q => absurd (nI_le (Nat.le_refl _) (by omega)) q⟩
        refine in_y h1 (by decide +kernel) (by decide +kernel) ⟨fun _ => ?_, fun z => absurd z (by decide)⟩
        refine known_M hu (fun slot' hkn => ?_)
        rw [hI]
        refine passesBy_M (b := 0) hV hKM (by omega) hS.1 (StM_row hF hSM (slot' := slot') (fun k hk => hkn.2.1 _ (by omega))) (by omega) (fun d1' d2' slot2 hs2 hfar => ?_)
        have hG := dayG_le (W := W) (kd := kd) (A := A) (B := B) (S := S) i
        have hGW : i * W ≤ 30 * 9 := Nat.mul_le_mul hn2 (by omega)
        refine ⟨fun _ => ⟨ni_out (n := 34) (by omega) (by omega), ?_, hT, rfl, F, W, T, kd, hr, A, B, tw, tp, hC, ⟨_, dayN_StV hV hS i, hs, hs2⟩, ?_, ?_, hZ⟩, fun q => absurd (nI_pos' (by omega)) q⟩
        · have := hs2.1
          rw [Nat.zero_add] at this
          rw [hs.1]; exact this.symm
        · exact RUn_row hF (RUn_put hF hu hN hk hkn) (fun j ha hb => hfar j (by omega))
        · exact RKe_row hF hK (fun j ha hb => by rw [hfar j (by omega)]; exact hkn.2.1 j (by omega))
      | succ k ih =>
        intro i d l p di hi hs
        rw [P_X8_pass_L25]
        refine ⟨fun q => absurd q (nI_ge (by omega) (by omega)), fun _ => ?_⟩
        refine goDay_C hV hKC (dayN_LdV hV hS.1 i) hs (fun di' l' p' hs' => ?_)
        rw [nI_1]
        exact ih (i + 1) _ _ _ _ (by omega) hs'
    exact key n 0 nd nl np did (by omega) hSC
  · refine within_0 h1 ⟨fun z => absurd rfl z, fun _ => ?_⟩
    exact in_n h1 (by decide +kernel) (by decide +kernel) ⟨fun z => absurd rfl z, fun _ => ⟨rfl, hT, hI, F, W, T, kd, hr, A, B, tw, tp, hC, hN, ⟨u, hu, rfl, rfl, hk⟩, hK, hZ⟩⟩
end
