section
variable {xl : Int32} {xt : Nat → Int32} {cf cw ct : Int32} {ck ch co ctw ctp : Nat → Int32} {nd ns : Int32} {nl np nsh : Nat → Int32} {us : Int32} {p8 : Nat → SVt} {ks : Int32} {p2 : Nat → SVt} {zs : Int32} {zw zp zd : Nat → Int32}
variable {mf mw mt : Int32} {msort mh mfi mse mby moff slot : Nat → Int32} {acts keeps ml : Int32} {mtx : Nat → Int32} {seens : Int32} {sw sp st : Nat → Int32} {idl : Int32}
variable {fd fs : Int32} {fl fp fsh fdi d1 d2 : Nat → Int32}
def OwL (A B : Nat → Nat) (f i : Nat) (own : Nat → Int32) : Prop := ∀ k, k < cnt A B f i → ∃ w, w < i ∧ (A w = f ∨ B w = f) ∧ cnt A B f w = k ∧ own k = nI w
theorem lists_M {F W f : Nat} {A B : Nat → Nat} {owned : Int32} {own : Nat → Int32} {post : Int32 → (Nat → Int32) → Prop} (hV : OwV F W A B) (hO : OwM W A B mw mfi mse) (hf : f < F) (h4 : cnt A B f W ≤ 4) (hp : ∀ own', OwL A B f W own' → post (nI (cnt A B f W)) own') : P_X9_lists (nI f) mw owned mfi mse own post := by
  have hW := hV.2.1
  unfold P_X9_lists
  refine ⟨W + 1, ?_⟩
  have key : ∀ k i own', i + k = W → OwL A B f i own' → P_X9_lists_L7 mw mfi mse post (k + 1) (nI f) (nI i) (nI (cnt A B f i)) own' := by
    intro k
    induction k with
    | zero =>
      intro i own' hi ho
      rw [P_X9_lists_L7, hO.1]
      have e : i = W := by omega
      subst e
      exact ⟨fun _ => hp own' ho, fun q => absurd (nI_le (Nat.le_refl _) (by omega)) q⟩
    | succ k ih =>
      intro i own' hi ho
      rw [P_X9_lists_L7]
      refine ⟨fun q => absurd q (by rw [hO.1]; exact nI_ge (by omega) (by omega)), fun _ => ?_⟩
      unfold P_X9_lists_b44
      refine isOf_M hV hO hf (by omega) (fun q => ⟨fun z => absurd z (by decide), fun _ => ?_⟩) (fun q => ⟨fun _ => ?_, fun z => absurd rfl z⟩)
      · have hlt := cnt_lt (show i < W by omega) q
        have e : cnt A B f i + 1 = cnt A B f (i + 1) := by rw [cnt, if_pos q]
        refine ⟨ni_out (by omega) (by omega), ?_⟩
        rw [nI_1, nI_1, cl (by omega), e]
        refine ih (i + 1) _ (by omega) (fun j hj => ?_)
        by_cases ej : j = cnt A B f i
        · exact ⟨i, by omega, q, ej.symm, by rw [ej, pk_us]⟩
        · obtain ⟨w, h1, h2, h3, h4⟩ := ho j (by omega)
          exact ⟨w, by omega, h2, h3, by rw [pk_un ej]; exact h4⟩
      · have e : cnt A B f (i + 1) = cnt A B f i := by rw [cnt, if_neg q]; rfl
        rw [nI_1, ← e]
        refine ih (i + 1) own' (by omega) (fun j hj => ?_)
        rw [e] at hj
        obtain ⟨w, h1, h2, h3, h4⟩ := ho j hj
        exact ⟨w, by omega, h2, h3, h4⟩
  exact key W 0 own (by omega) (fun k hk => by exact absurd hk (Nat.not_lt_zero _))
def setK (W : Nat) (A B : Nat → Nat) (f i : Nat) (v : Nat → Int32) (S : St) : St := (S.1, S.2.1, S.2.2.1, S.2.2.2.1, (fun w => if (w < W ∧ A w = f) ∧ cnt A B f w < i then v (cnt A B f w) else S.2.2.2.2.1 w), (fun w => if (w < W ∧ B w = f) ∧ cnt A B f w < i then v (cnt A B f w) else S.2.2.2.2.2 w))
theorem setK_0 {W : Nat} {A B : Nat → Nat} {f : Nat} {v : Nat → Int32} {S : St} : setK W A B f 0 v S = S := by
  unfold setK
  simp
theorem setK_all {W : Nat} {A B : Nat → Nat} {f : Nat} {v : Nat → Int32} {S : St} : setK W A B f (cnt A B f W) v S = setS W A B f v S := by
  unfold setK setS
  have e1 : (fun w => if (w < W ∧ A w = f) ∧ cnt A B f w < cnt A B f W then v (cnt A B f w) else S.2.2.2.2.1 w) = (fun w => if w < W ∧ A w = f then v (cnt A B f w) else S.2.2.2.2.1 w) := by
    funext w
    by_cases q : w < W ∧ A w = f
    · rw [if_pos q, if_pos ⟨q, cnt_lt q.1 (Or.inl q.2)⟩]
    · rw [if_neg q, if_neg (fun z => q z.1)]
  have e2 : (fun w => if (w < W ∧ B w = f) ∧ cnt A B f w < cnt A B f W then v (cnt A B f w) else S.2.2.2.2.2 w) = (fun w => if w < W ∧ B w = f then v (cnt A B f w) else S.2.2.2.2.2 w) := by
    funext w
    by_cases q : w < W ∧ B w = f
    · rw [if_pos q, if_pos ⟨q, cnt_lt q.1 (Or.inr q.2)⟩]
    · rw [if_neg q, if_neg (fun z => q z.1)]
  rw [e1, e2]
theorem cnt_inj {A B : Nat → Nat} {f w w' : Nat} (h : A w = f ∨ B w = f) (h' : A w' = f ∨ B w' = f) (e : cnt A B f w = cnt A B f w') : w = w' := by
  by_cases q : w < w'
  · have := cnt_lt q h; omega
  · by_cases q2 : w' < w
    · have := cnt_lt q2 h'; omega
    · omega
theorem setK_next {F W : Nat} {A B : Nat → Nat} (hV : OwV F W A B) {f b i w : Nat} {v : Nat → Int32} {S : St} (hw : w < W) (ho : A w = f ∨ B w = f) (hc : cnt A B f w = i) (h : StM F b (setK W A B f i v S) slot) : StM F b (setK W A B f (i + 1) v S) (upd slot (shp A b f w) (v i)) := by
  have hF := hV.1
  have hW := hV.2.1
  obtain ⟨a1, a2, a3⟩ := hV.2.2 w hw
  obtain ⟨h1, h2, h3, h4⟩ := h
  have hs : b + 15 ≤ shp A b f w ∧ shp A b f w < b + 33 := by unfold shp; split <;> omega
  refine ⟨by rw [pk_un (by omega)]; exact h1, by rw [pk_un (by omega)]; exact h2, fun g hg => by rw [pk_un (by omega)]; exact h3 g hg, fun x hx => ⟨by rw [pk_un (by omega)]; exact (h4 x hx).1, ?_, ?_⟩⟩
  · have e : slot (b + 15 + x) = if (x < W ∧ A x = f) ∧ cnt A B f x < i then v (cnt A B f x) else S.2.2.2.2.1 x := (h4 x hx).2.1
    show _ = if (x < W ∧ A x = f) ∧ cnt A B f x < i + 1 then v (cnt A B f x) else S.2.2.2.2.1 x
    by_cases q : x = w ∧ A w = f
    · obtain ⟨rfl, q⟩ := q
      rw [if_pos ⟨⟨hw, q⟩, by omega⟩, shp, if_pos q, pk_us, hc]
    · have hne : b + 15 + x ≠ shp A b f w := by
        unfold shp
        split
        · next hq => intro z; exact q ⟨by omega, hq⟩
        · omega
      rw [pk_un hne, e]
      by_cases q2 : x < W ∧ A x = f
      · have hxw : ¬ cnt A B f x = i := fun z => by
          have e4 := cnt_inj (Or.inl q2.2) ho (z.trans hc.symm)
          exact q ⟨e4, by rw [← e4]; exact q2.2⟩
        by_cases q3 : cnt A B f x < i
        · rw [if_pos ⟨q2, q3⟩, if_pos ⟨q2, by omega⟩]
        · rw [if_neg (fun z => q3 z.2), if_neg (fun z => by have := z.2; omega)]
      · rw [if_neg (fun z => q2 z.1), if_neg (fun z => q2 z.1)]
  · have e : slot (b + 24 + x) = if (x < W ∧ B x = f) ∧ cnt A B f x < i then v (cnt A B f x) else S.2.2.2.2.2 x := (h4 x hx).2.2
    show _ = if (x < W ∧ B x = f) ∧ cnt A B f x < i + 1 then v (cnt A B f x) else S.2.2.2.2.2 x
    by_cases q : x = w ∧ B w = f
    · obtain ⟨rfl, q⟩ := q
      rw [if_pos ⟨⟨hw, q⟩, by omega⟩, shp, if_neg (by omega), pk_us, hc]
    · have hne : b + 24 + x ≠ shp A b f w := by
        unfold shp
        split
        · omega
        · next hq => intro z; exact q ⟨by omega, by omega⟩
      rw [pk_un hne, e]
      by_cases q2 : x < W ∧ B x = f
      · have hxw : ¬ cnt A B f x = i := fun z => by
          have e4 := cnt_inj (Or.inr q2.2) ho (z.trans hc.symm)
          exact q ⟨e4, by rw [← e4]; exact q2.2⟩
        by_cases q3 : cnt A B f x < i
        · rw [if_pos ⟨q2, q3⟩, if_pos ⟨q2, by omega⟩]
        · rw [if_neg (fun z => q3 z.2), if_neg (fun z => by have := z.2; omega)]
      · rw [if_neg (fun z => q2 z.1), if_neg (fun z => q2 z.1)]
theorem best_M {F W f n h c j : Nat} {kd A B : Nat → Nat} {S : St} {owned : Int32} {own part bp : Nat → Int32} {post : Int32 → Int32 → (Nat → Int32) → (Nat → Int32) → (Nat → Int32) → (Nat → Int32) → (Nat → Int32) → (Nat → Int32) → Prop} (hV : CoV F W kd A B) (hKM : CoM F W kd A B mw mfi mse msort) (emf : mf = nI F) (hI : idl = 0) (hf : f < F) (hn1 : 1 ≤ n) (hn : n ≤ 14) (hh : h ≤ 12) (hmh : mh f = nI h) (hj : j ≤ 4) (hc : c = cnt A B f W) (hc4 : c ≤ 4) (hL : LdV F S) (hSM : StM F 0 S slot)
    (hp0 : c = 0 → ∀ a b c' sl e1 e2 g, (∀ j, j < 385 → sl j = slot j) → post (-4) a b c' sl e1 e2 g) (hp1 : 1 ≤ c → j = 0 → ∀ a b c' sl e1 e2 g, (∀ j, j < 385 → sl j = slot j) → post (mM (bestR W kd A B S f n c 455 (h, 0, 0, 0) 0 (h, 0, 0, 0)).1) a b c' sl e1 e2 g)
    (hp2 : 1 ≤ c → 1 ≤ j → j ≤ c → ∀ a b c' sl e1 e2 g, (∀ j, j < 385 → sl j = slot j) → post (nI (wf (bestR W kd A B S f n c 455 (h, 0, 0, 0) 0 (h, 0, 0, 0)).2 (j - 1))) a b c' sl e1 e2 g) (hp3 : 1 ≤ c → c < j → ∀ a b c' sl e1 e2 g, (∀ j, j < 385 → sl j = slot j) → post (-4) a b c' sl e1 e2 g) : P_X9_best (nI f) (nI n) (nI j) mf mw idl owned mfi mse own mh part slot d1 d2 msort bp post := by
  have hF := hV.1
  have hW := hV.2.1
  unfold P_X9_best
  refine famM_1 (by rw [emf]; exact nI_InR (by omega) hf) ⟨fun z => absurd z (by decide), fun _ => ?_⟩
  refine in_y (lo := 1) (hi := 14) ⟨nI_le (a := 1) hn1 (by omega), nI_le (b := 14) hn (by omega)⟩ (by decide +kernel) (by decide +kernel) ⟨fun z => absurd z (by decide), fun _ => ?_⟩
  refine in_y (lo := 0) (hi := 4) ⟨nI_pos' (by omega), nI_le (b := 4) hj (by omega)⟩ (by decide +kernel) (by decide +kernel) ⟨fun _ => ?_, fun z => absurd z (by decide)⟩
  refine lists_M hV.ow hKM.ow hf (by omega) (fun own hown => ?_)
  rw [← hc, ni_e0 (by omega), hI]
  refine ⟨fun hc0 => ⟨c + 1, ?_⟩, fun q => hp0 q _ _ _ _ _ _ _ (fun _ _ => rfl)⟩
  have hc1 : 1 ≤ c := by omega
  -- the ways, one after the other
  have big : ∀ k t M bw pt sl e1 e2 bp, M ≤ 2000 → runT c k t = true → sm t → bestR W kd A B S f n c k t M bw = bestR W kd A B S f n c 455 (h, 0, 0, 0) 0 (h, 0, 0, 0) → (∀ j, j < 385 → sl j = slot j) → W4 c t pt → (1 ≤ M → W4 c bw bp) → P_X9_best_L95 mf mw 0 mfi mse mh msort post (k + 1) (nI f) (nI n) (nI j) (mM M) 1 (nI c) own pt sl e1 e2 bp := by
    intro k
    induction k with
    | zero => intro t M bw pt sl e1 e2 bp hM hr; cases hr
    | succ k ih =>
      intro t M bw pt sl e1 e2 bp hM hr hsm hb hfar hw hbs
      rw [P_X9_best_L95]
      refine ⟨fun z => absurd z (by decide), fun _ => ?_⟩
      refine trial_M hF (StM_row hF hSM (slot' := sl) (fun k hk => hfar _ (by omega))) (fun sl1 hs1 hf1 => ⟨c + 1, ?_⟩)
      have hfar1 : ∀ j, j < 385 → sl1 j = slot j := fun j hj => (hf1 j hj).trans (hfar j hj)
      -- the end of a way
      have fin : ∀ M' bw' bp' sl' e1 e2, 1 ≤ M' → M' ≤ 2000 → (∀ j, j < 385 → sl' j = slot j) → W4 c bw' bp' → (match nextT c t with | none => (M', bw') | some t' => bestR W kd A B S f n c k t' M' bw') = bestR W kd A B S f n c 455 (h, 0, 0, 0) 0 (h, 0, 0, 0) → P_X9_best_b222 mf mw 0 mfi mse mh msort (P_X9_best_L95 mf mw 0 mfi mse mh msort post (k + 1)) post (nI f) (nI n) (nI j) (mM M') (nI c) own pt sl' e1 e2 bp' := by
        intro M' bw' bp' sl' e1 e2 hM1 hM2 hf' hb' hres
        unfold P_X9_best_b222
        rw [runT] at hr
        refine sharesOn_M hc1 hc4 hsm hw (fun t' pt' e hw' => ?_) (fun e => ?_)
        · rw [e] at hr hres
          exact ih t' M' bw' pt' sl' e1 e2 bp' hM2 hr (nextT_sm hsm e) hres hf' hw' (fun _ => hb')
        · rw [e] at hres
          have hres : (M', bw') = bestR W kd A B S f n c 455 (h, 0, 0, 0) 0 (h, 0, 0, 0) := hres
          rw [P_X9_best_L95, ni_e0 (by omega), nI_leI (by omega) (by omega)]
          refine ⟨fun _ => ⟨fun q => ⟨fun r => ?_, fun r => ?_⟩, fun q => ?_⟩, fun z => absurd rfl z⟩
          · have := hp2 hc1 (by omega) r (nI c) own pt sl' e1 e2 bp' hf'
            rw [← hres] at this
            rw [ni_m1 q, cl (by omega), hb' (j - 1) (by omega)]
            exact ⟨ni_out (by omega) (by omega), this⟩
          · exact hp3 hc1 (by omega) _ _ _ _ _ _ _ hf'
          · have := hp1 hc1 q (nI c) own pt sl' e1 e2 bp' hf'
            rw [← hres] at this
            exact this
      -- the hours of this way
      have puts : ∀ k2 i sl2, i + k2 = c → StM F 385 (setK W A B f i (fun k => nI (wf t k)) S) sl2 → (∀ j, j < 385 → sl2 j = slot j) → P_X9_best_L111 mf mw 0 mfi mse mh msort (P_X9_best_L95 mf mw 0 mfi mse mh msort post (k + 1)) post (k2 + 1) (nI f) (nI n) (nI j) (mM M) (nI i) (nI c) own pt sl2 e1 e2 bp := by
        intro k2
        induction k2 with
        | zero =>
          intro i sl2 hi hs2 hf2
          rw [P_X9_best_L111]
          have e : i = c := by omega
          subst e
          refine ⟨fun _ => ?_, fun q => absurd (nI_le (Nat.le_refl _) (by omega)) q⟩
          have ek : setK W A B f i (fun k => nI (wf t k)) S = wayS W A B f t S := by rw [wayS, hc]; exact setK_all
          rw [ek] at hs2
          have hL2 : LdV F (wayS W A B f t S) := hL
          refine passesBy_M (b := 385) hV hKM (by omega) hL2 hs2 (by omega) (fun e1' e2' sl3 hs3 hf3 => ?_)
          have hG := dayG_le (W := W) (kd := kd) (A := A) (B := B) (S := wayS W A B f t S) n
          have hGW : n * W ≤ 14 * 9 := Nat.mul_le_mul hn hW
          have hfar3 : ∀ j, j < 385 → sl3 j = slot j := fun j hj => (hf3 j (by omega)).trans (hf2 j hj)
          have e385 : (385 : Int32) + nI f = nI (385 + f) := by rw [show (385 : Int32) = nI 385 from rfl, na]
          have hl : sl3 (385 + f) = nI (landB W kd A B S f n t) := hs3.2.2.1 f hf
          have hll := landB_le (n := n) (t := t) hV hL hf
          rw [e385, cl (by omega), hl, mM_le hM hll]
          refine ⟨fun q => absurd q (nI_pos (by omega)), fun _ => ⟨ni_out (by omega) (by omega), fun q => ?_, fun q => ⟨ni_out (by omega) (by omega), i + 1, ?_⟩⟩⟩
          · refine fin M bw bp sl3 e1' e2' (by omega) hM hfar3 (hbs (by omega)) ?_
            rw [← hb, bestR]
            cases nextT i t with
            | none => dsimp only; rw [if_neg q]
            | some t' => dsimp only; rw [if_neg q]
          · have q' : M ≤ landB W kd A B S f n t := by omega
            rw [← mM_up]
            have cpy : ∀ k3 i3 bp3, i3 + k3 = i → (∀ j, j < i3 → bp3 j = nI (wf t j)) → P_X9_best_L193 mf mw 0 mfi mse mh msort (P_X9_best_L95 mf mw 0 mfi mse mh msort post (k + 1)) post (k3 + 1) (nI f) (nI n) (nI j) (mM (landB W kd A B S f n t + 1)) (nI i3) (nI i) own pt sl3 e1' e2' bp3 := by
              intro k3
              induction k3 with
              | zero =>
                intro i3 bp3 hi3 hb3
                rw [P_X9_best_L193]
                have e : i3 = i := by omega
                rw [e]
                refine ⟨fun _ => ?_, fun q => absurd (nI_le (Nat.le_refl _) (by omega)) q⟩
                refine fin _ t bp3 sl3 e1' e2' (by omega) (by omega) hfar3 (fun k hk => hb3 k (by omega)) ?_
                rw [← hb, bestR]
                cases nextT i t with
                | none => dsimp only; rw [if_pos q']
                | some t' => dsimp only; rw [if_pos q']
              | succ k3 ih3 =>
                intro i3 bp3 hi3 hb3
                rw [P_X9_best_L193]
                refine ⟨fun q => absurd q (nI_ge (by omega) (by omega)), fun _ => ⟨ni_out (by omega) (by omega), ni_out (by omega) (by omega), ?_⟩⟩
                rw [nI_1, cl (by omega), hw i3 (by omega)]
                refine ih3 (i3 + 1) _ (by omega) (fun j hj => ?_)
                by_cases e : j = i3
                · subst e; exact pk_us
                · rw [pk_un e]; exact hb3 j (by omega)
            exact cpy i 0 bp (by omega) (fun j hj => by omega)
        | succ k2 ih2 =>
          intro i sl2 hi hs2 hf2
          rw [P_X9_best_L111]
          refine ⟨fun q => absurd q (nI_ge (by omega) (by omega)), fun _ => ⟨ni_out (by omega) (by omega), ni_out (by omega) (by omega), ?_⟩⟩
          obtain ⟨w, hw1, hw2, hw3, hw4⟩ := hown i (by omega)
          rw [nI_1, cl (by omega), hw4, hw i (by omega)]
          refine puts_M (b := 385) hV.ow hKM.ow (by omega) hf hw1 ?_
          refine ih2 (i + 1) _ (by omega) (setK_next (v := fun k => nI (wf t k)) hV.ow hw1 hw2 hw3 hs2) (fun j hj => by rw [pk_un (shp_out (by omega) (by omega))]; exact hf2 j hj)
      exact puts c 0 sl1 (by omega) (by rw [setK_0]; exact hs1) hfar1
  have init : ∀ k i pt, i + k = c → (∀ j, j < i → pt j = nI (wf (h, 0, 0, 0) j)) → P_X9_best_L52 mf mw 0 mfi mse mh msort post (k + 1) (nI f) (nI n) (nI j) (nI i) (nI c) own pt slot d1 d2 bp := by
    intro k
    induction k with
    | zero =>
      intro i pt hi hpt
      rw [P_X9_best_L52]
      have e : i = c := by omega
      rw [e]
      refine ⟨fun _ => ⟨456, ?_⟩, fun q => absurd (nI_le (Nat.le_refl _) (by omega)) q⟩
      exact big 455 (h, 0, 0, 0) 0 (h, 0, 0, 0) pt slot d1 d2 bp (by omega) (run_ok c (by omega) h (by omega)) (by unfold sm; dsimp only; omega) rfl (fun _ _ => rfl) (fun k hk => hpt k (by omega)) (fun z => by omega)
    | succ k ih =>
      intro i pt hi hpt
      rw [P_X9_best_L52]
      unfold P_X9_best_b82
      rw [ni_e0 (by omega), nI_1, cl (by omega), cl (by omega), hmh]
      refine ⟨fun q => absurd q (nI_ge (by omega) (by omega)), fun _ => ⟨fun q => ⟨ni_out (by omega) (by omega), ?_⟩, fun q => ⟨ni_out (by omega) (by omega), ni_out (by omega) (by omega), ?_⟩⟩⟩
      · refine ih (i + 1) _ (by omega) (fun j hj => ?_)
        by_cases e : j = i
        · subst e
          rw [pk_us]
          unfold wf
          rw [if_neg q]
          split
          · rfl
          · split <;> rfl
        · rw [pk_un e]; exact hpt j (by omega)
      · refine ih (i + 1) _ (by omega) (fun j hj => ?_)
        subst q
        have e : j = 0 := by omega
        subst e
        rw [pk_us]; rfl
  exact init c 0 part (by omega) (fun j hj => by omega)
theorem q_best (h : RelX xl xt cf cw ct ck ch co ctw ctp nd ns nl np nsh us p8 ks p2 zs zw zp zd mf mw mt msort mh mfi mse mby moff slot acts keeps ml mtx seens sw sp st idl) (x1 x2 x3 : Int32) {pd ps owned : Int32} {pl pp psh way best own part bp : Nat → Int32} : P_X8_best x1 x2 x3 cf cw co pd ps nd ns pl nl pp np psh nsh ch way fd fs fl fp fsh fdi ck best (fun r _ _ _ _ _ _ _ _ _ _ _ _ _ => P_X9_best x1 x2 x3 mf mw idl owned mfi mse own mh part slot d1 d2 msort bp (fun r' _ _ _ slot' _ _ _ => r = r' ∧ RelX xl xt cf cw ct ck ch co ctw ctp nd ns nl np nsh us p8 ks p2 zs zw zp zd mf mw mt msort mh mfi mse mby moff slot' acts keeps ml mtx seens sw sp st idl)) := by
  have hall : ∀ slot', (∀ j, j < 385 → slot' j = slot j) → RelX xl xt cf cw ct ck ch co ctw ctp nd ns nl np nsh us p8 ks p2 zs zw zp zd mf mw mt msort mh mfi mse mby moff slot' acts keeps ml mtx seens sw sp st idl := fun slot' e => RelX_slot h e
  obtain ⟨hT, hI, F, W, T, kd, hr, A, B, tw, tp, hC, hN, hU, hK, hZ⟩ := id h
  obtain ⟨hV, hF1, hW8, hT6, hr12, hc4, htw, ecf, emf, ect, emt, hKC, hKM, hhr, hrow⟩ := id hC
  obtain ⟨S, hS, hSC, hSM⟩ := id hN
  have hF := hV.1
  unfold P_X8_best
  by_cases h1 : InR x1 0 (nI F - 1)
  · refine famC_1 (by rw [ecf]; exact h1) ⟨fun z => absurd z (by decide), fun _ => ?_⟩
    by_cases h2 : InR x2 1 14
    · refine within_1 h2 ⟨fun z => absurd z (by decide), fun _ => ?_⟩
      by_cases h3 : InR x3 0 4
      · refine within_1 h3 ⟨fun _ => ?_, fun z => absurd z (by decide)⟩
        obtain ⟨f, hf, rfl⟩ := InR_n (by omega) h1
        obtain ⟨n, hn1, hn, rfl⟩ := InR_c (lo := 1) (hi := 14) (by omega) (by omega) h2
        obtain ⟨j, -, hj, rfl⟩ := InR_c (lo := 0) (hi := 4) (by omega) (by omega) h3
        have hcc := hc4 f hf
        refine wallsOf_C hV.ow hKC.ow hf ?_
        rw [ni_e0 (by omega), nI_leI (by omega) (by omega), ni_e0 (by omega)]
        refine ⟨fun q => ?_, fun q => ⟨fun r => ?_, fun r => ?_⟩⟩
        · exact best_M hV hKM emf hI hf hn1 hn (hr12 f hf) (hhr f hf).2 hj rfl hcc hS.1 hSM (fun _ _ _ _ sl _ _ _ hfar => ⟨rfl, hall _ hfar⟩) (fun z => by omega) (fun z => by omega) (fun z => by omega)
        · refine findBest_C hV hKC hf hn (hr12 f hf) (hhr f hf).1 rfl (by omega) hcc hS.1 hSC (fun pd' ps' pl' pp' psh' way' td ts tl tp tsh tdi best' hb hM => ⟨fun s => ⟨?_, ?_⟩, fun s => ?_⟩)
          · rw [ni_m1 s]; exact ni_out (by omega) (by omega)
          · rw [ni_m1 s, cl (by omega), hb (j - 1) (by omega)]
            exact best_M hV hKM emf hI hf hn1 hn (hr12 f hf) (hhr f hf).2 hj rfl hcc hS.1 hSM (fun z => absurd z q) (fun _ z => absurd z s) (fun _ _ _ _ _ _ sl _ _ _ hfar => ⟨rfl, hall _ hfar⟩) (fun _ z => by omega)
          · refine best_M hV hKM emf hI hf hn1 hn (hr12 f hf) (hhr f hf).2 hj rfl hcc hS.1 hSM (fun z => absurd z q) (fun _ _ _ _ _ sl _ _ _ hfar => ⟨?_, hall _ hfar⟩) (fun _ z => by omega) (fun _ z => by omega)
            unfold mC mM
            rw [if_neg (by omega), if_neg (by omega)]
        · exact best_M hV hKM emf hI hf hn1 hn (hr12 f hf) (hhr f hf).2 hj rfl hcc hS.1 hSM (fun z => absurd z q) (fun _ z => by omega) (fun _ _ z => absurd z r) (fun _ _ _ _ _ sl _ _ _ hfar => ⟨rfl, hall _ hfar⟩)
      · refine within_0 h3 ⟨fun z => absurd rfl z, fun _ => ?_⟩
        unfold P_X9_best
        refine famM_1 (by rw [emf]; exact h1) ⟨fun z => absurd z (by decide), fun _ => ?_⟩
        refine in_y h2 (by decide +kernel) (by decide +kernel) ⟨fun z => absurd z (by decide), fun _ => ?_⟩
        exact in_n h3 (by decide +kernel) (by decide +kernel) ⟨fun z => absurd rfl z, fun _ => ⟨rfl, h⟩⟩
    · refine within_0 h2 ⟨fun _ => ?_, fun z => absurd rfl z⟩
      unfold P_X9_best
      refine famM_1 (by rw [emf]; exact h1) ⟨fun z => absurd z (by decide), fun _ => ?_⟩
      exact in_n h2 (by decide +kernel) (by decide +kernel) ⟨fun _ => ⟨rfl, h⟩, fun z => absurd rfl z⟩
  · refine famC_0 (by rw [ecf]; exact h1) ⟨fun _ => ?_, fun z => absurd rfl z⟩
    unfold P_X9_best
    exact famM_0 (by rw [emf]; exact h1) ⟨fun _ => ⟨rfl, h⟩, fun z => absurd rfl z⟩
end
