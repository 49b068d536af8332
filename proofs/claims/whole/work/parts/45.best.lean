section
variable {xl : Int32} {xt : Nat → Int32} {cf cw ct : Int32} {ck ch co ctw ctp : Nat → Int32} {nd ns : Int32} {nl np nsh : Nat → Int32} {us : Int32} {p8 : Nat → SVt} {ks : Int32} {p2 : Nat → SVt} {zs : Int32} {zw zp zd : Nat → Int32}
variable {mf mw mt : Int32} {msort mh mfi mse mby moff slot : Nat → Int32} {acts keeps ml : Int32} {mtx : Nat → Int32} {seens : Int32} {sw sp st : Nat → Int32} {idl : Int32}
variable {fd fs : Int32} {fl fp fsh fdi d1 d2 : Nat → Int32}
/-! the best way -/
theorem setS_congr {W : Nat} {A B : Nat → Nat} {f : Nat} {u v : Nat → Int32} {S : St} (h : ∀ k, k < cnt A B f W → u k = v k) : setS W A B f u S = setS W A B f v S := by
  unfold setS
  have e1 : (fun w => if w < W ∧ A w = f then u (cnt A B f w) else S.2.2.2.2.1 w) = (fun w => if w < W ∧ A w = f then v (cnt A B f w) else S.2.2.2.2.1 w) := by
    funext w
    by_cases q : w < W ∧ A w = f
    · rw [if_pos q, if_pos q, h _ (cnt_lt q.1 (Or.inl q.2))]
    · rw [if_neg q, if_neg q]
  have e2 : (fun w => if w < W ∧ B w = f then u (cnt A B f w) else S.2.2.2.2.2 w) = (fun w => if w < W ∧ B w = f then v (cnt A B f w) else S.2.2.2.2.2 w) := by
    funext w
    by_cases q : w < W ∧ B w = f
    · rw [if_pos q, if_pos q, h _ (cnt_lt q.1 (Or.inr q.2))]
    · rw [if_neg q, if_neg q]
  rw [e1, e2]
def wayS (W : Nat) (A B : Nat → Nat) (f : Nat) (t : T4) (S : St) : St := setS W A B f (fun k => nI (wf t k)) S
def landB (W : Nat) (kd A B : Nat → Nat) (S : St) (f n : Nat) (t : T4) : Nat := (dayN W kd A B n (wayS W A B f t S)).2.2.1 f
def bestR (W : Nat) (kd A B : Nat → Nat) (S : St) (f n c : Nat) : Nat → T4 → Nat → T4 → Nat × T4
  | 0, _, M, bw => (M, bw)
  | k + 1, t, M, bw => match nextT c t with
    | none => if M ≤ landB W kd A B S f n t then (landB W kd A B S f n t + 1, t) else (M, bw)
    | some t' => if M ≤ landB W kd A B S f n t then bestR W kd A B S f n c k t' (landB W kd A B S f n t + 1) t else bestR W kd A B S f n c k t' M bw
def mC (M : Nat) : Int32 := if M = 0 then -4 else nI (M - 1)
def mM (M : Nat) : Int32 := if M = 0 then -1 else nI (M - 1)
theorem mC_le {M l : Nat} (hM : M ≤ 2000) (hl : l ≤ 1000) : nI l ≤ mC M ↔ ¬ M ≤ l := by
  unfold mC
  split
  · next h =>
    subst h
    rw [Int32.le_iff_toInt_le, nI_toInt (by omega), show (-4 : Int32).toInt = -4 by decide]; omega
  · rw [nI_leI (by omega) (by omega)]; omega
theorem mM_le {M l : Nat} (hM : M ≤ 2000) (hl : l ≤ 1000) : nI l ≤ mM M ↔ ¬ M ≤ l := by
  unfold mM
  split
  · next h =>
    subst h
    rw [Int32.le_iff_toInt_le, nI_toInt (by omega), show (-1 : Int32).toInt = -1 by decide]; omega
  · rw [nI_leI (by omega) (by omega)]; omega
theorem mC_up (l : Nat) : mC (l + 1) = nI l := by unfold mC; rw [if_neg (by omega), Nat.add_sub_cancel]
theorem mM_up (l : Nat) : mM (l + 1) = nI l := by unfold mM; rw [if_neg (by omega), Nat.add_sub_cancel]
theorem landB_le {F W : Nat} {kd A B : Nat → Nat} {S : St} {f n : Nat} {t : T4} (hV : CoV F W kd A B) (hL : LdV F S) (hf : f < F) : landB W kd A B S f n t ≤ 1000 := by
  have hL2 : LdV F (wayS W A B f t S) := hL
  exact LdV_lt (dayN_LdV hV hL2 n) hf
theorem findBest_C {F W f n h c : Nat} {kd A B : Nat → Nat} {S : St} {pd ps : Int32} {pl pp psh way best : Nat → Int32} {post : Int32 → Int32 → Int32 → (Nat → Int32) → (Nat → Int32) → (Nat → Int32) → (Nat → Int32) → Int32 → Int32 → (Nat → Int32) → (Nat → Int32) → (Nat → Int32) → (Nat → Int32) → (Nat → Int32) → Prop} (hV : CoV F W kd A B) (hKC : CoC F W kd A B cw co ck) (hf : f < F) (hn : n ≤ 14) (hh : h ≤ 12) (hch : ch f = nI h) (hc : c = cnt A B f W) (hc1 : 1 ≤ c) (hc4 : c ≤ 4) (hL : LdV F S) (hSC : StC F S nd ns nl np nsh)
    (hp : ∀ pd' ps' pl' pp' psh' way' td ts tl tp tsh tdi best', W4 4 (bestR W kd A B S f n c 455 (h, 0, 0, 0) 0 (h, 0, 0, 0)).2 best' → 1 ≤ (bestR W kd A B S f n c 455 (h, 0, 0, 0) 0 (h, 0, 0, 0)).1 → post (mC (bestR W kd A B S f n c 455 (h, 0, 0, 0) 0 (h, 0, 0, 0)).1) pd' ps' pl' pp' psh' way' td ts tl tp tsh tdi best') : P_X2_findBestWay (nI f) (nI n) cw co pd ps nd ns pl nl pp np psh nsh ch way fd fs fl fp fsh fdi ck best post := by
  have hF := hV.1
  unfold P_X2_findBestWay P_X6_takeOver
  refine wallsOf_C hV.ow hKC.ow hf ⟨ni_out (by omega) (by omega), ?_⟩
  rw [cl (by omega), hch, ← hc]
  refine beginWays_C (fun way1 hw1 => ⟨456, ?_⟩)
  have key : ∀ k i t M bw (P : St) qd qs ql qp qsh wy td ts tl tp tsh tdi bs, i + k ≤ 1000 → M ≤ 2000 → runT c k t = true → sm t → bestR W kd A B S f n c k t M bw = bestR W kd A B S f n c 455 (h, 0, 0, 0) 0 (h, 0, 0, 0) → (∀ v, setS W A B f v P = setS W A B f v S) → StC F P qd qs ql qp qsh → W4 4 t wy → (1 ≤ M → W4 4 bw bs) → P_X2_findBestWay_L32 cw co nd ns nl np nsh ch ck post (k + 1) (nI f) (nI n) (nI c) (mC M) (nI i) qd qs ql qp qsh wy td ts tl tp tsh tdi bs := by
    intro k
    induction k with
    | zero =>
      intro i t M bw P qd qs ql qp qsh wy td ts tl tp tsh tdi bs hi hM hr hsm hb hP hs hw hbs
      cases hr
    | succ k ih =>
      intro i t M bw P qd qs ql qp qsh wy td ts tl tp tsh tdi bs hi hM hr hsm hb hP hs hw hbs
      rw [P_X2_findBestWay_L32]
      refine ⟨fun q => absurd q (nI_ge (a := i) (b := 1000) (by omega) (by omega)), fun _ => ?_⟩
      refine shareBy_C hV.ow hKC.ow hs hf (by omega) (fun qsh' hs' => ?_)
      have ew : setS W A B f wy P = wayS W A B f t S := by
        rw [hP, wayS]
        exact setS_congr (fun k hk => hw k (by omega))
      have hP2 : ∀ v, setS W A B f v (setS W A B f wy P) = setS W A B f v S := fun v => by rw [setS_setS, hP]
      have hs3 := hs'
      rw [ew] at hs3
      have hL2 : LdV F (wayS W A B f t S) := hL
      refine standBehind_C hV hKC hL2 hs3 (by omega) (fun d s l p0 sh di hs2 => ⟨ni_out (by omega) (by omega), ?_⟩)
      have hl : l f = nI (landB W kd A B S f n t) := hs2.2.2.1 f hf
      have hll := landB_le (n := n) (t := t) hV hL hf
      rw [cl (by omega), hl, mC_le hM hll]
      unfold P_X2_findBestWay_b100
      rw [runT] at hr
      rw [bestR] at hb
      refine ⟨fun q => ?_, fun q => ?_⟩
      · refine nextWay_C hc1 hc4 hsm hw (fun t' wy' e hw' => ⟨fun _ => ?_, fun z => absurd z (by decide)⟩) (fun e => ⟨fun z => absurd rfl z, fun _ => ?_⟩)
        · rw [e] at hr hb
          dsimp only at hr hb
          rw [if_neg q] at hb
          rw [nI_1]
          exact ih (i + 1) t' M bw _ _ _ _ _ _ _ _ _ _ _ _ _ _ (by omega) hM hr (nextT_sm hsm e) hb hP2 hs' hw' hbs
        · rw [e] at hb
          dsimp only at hb
          rw [if_neg q] at hb
          have hM1 : 1 ≤ M := by omega
          have := hp qd qs ql qp qsh' wy d s l p0 sh di bs (by rw [← hb]; exact hbs hM1) (by rw [← hb]; exact hM1)
          rw [← hb] at this
          exact this
      · have q' : M ≤ landB W kd A B S f n t := by omega
        have hcp : W4 4 t (va_cpy wy bs 0 0 4) := fun k hk => by rw [sb_cpy0 hk]; exact hw k hk
        refine nextWay_C hc1 hc4 hsm hw (fun t' wy' e hw' => ⟨fun _ => ?_, fun z => absurd z (by decide)⟩) (fun e => ⟨fun z => absurd rfl z, fun _ => ?_⟩)
        · rw [e] at hr hb
          dsimp only at hr hb
          rw [if_pos q'] at hb
          rw [nI_1, ← mC_up]
          exact ih (i + 1) t' _ t _ _ _ _ _ _ _ _ _ _ _ _ _ _ (by omega) (by omega) hr (nextT_sm hsm e) hb hP2 hs' hw' (fun _ => hcp)
        · rw [e] at hb
          dsimp only at hb
          rw [if_pos q'] at hb
          have := hp qd qs ql qp qsh' wy d s l p0 sh di (va_cpy wy bs 0 0 4) (by rw [← hb]; exact hcp) (by rw [← hb]; exact Nat.succ_le_succ (Nat.zero_le _))
          rw [← hb] at this
          dsimp only at this
          rw [mC_up] at this
          exact this
  exact key 455 0 (h, 0, 0, 0) 0 (h, 0, 0, 0) S _ _ _ _ _ _ _ _ _ _ _ _ _ (by omega) (by omega) (run_ok c (by omega) h (by omega)) (by unfold sm; dsimp only; omega) rfl (fun _ => rfl) (StC_copy hF hSC) hw1 (fun z => by omega)
end
