/-! the law: its words, its calls -/
theorem tbl_at {w : Cond} (i : Nat) (h : tables_1[i]? = some w) : w ∈ lw_tbl := List.mem_append_right _ (List.mem_of_getElem? h)
theorem nwL_tbl : ∀ w ∈ nwL, w ∈ lw_tbl := by
  intro w hw
  simp only [nwL, List.mem_cons, List.not_mem_nil, or_false] at hw
  rcases hw with rfl | rfl | rfl | rfl | rfl | rfl | rfl | rfl | rfl | rfl | rfl | rfl | rfl | rfl | rfl
  · exact tbl_at 338 (by decide +kernel)
  · exact tbl_at 331 (by decide +kernel)
  · exact tbl_at 50 (by decide +kernel)
  · exact tbl_at 103 (by decide +kernel)
  · exact tbl_at 153 (by decide +kernel)
  · exact tbl_at 173 (by decide +kernel)
  · exact tbl_at 211 (by decide +kernel)
  · exact tbl_at 228 (by decide +kernel)
  · exact tbl_at 28 (by decide +kernel)
  · exact tbl_at 233 (by decide +kernel)
  · exact tbl_at 178 (by decide +kernel)
  · exact tbl_at 180 (by decide +kernel)
  · exact tbl_at 142 (by decide +kernel)
  · exact tbl_at 216 (by decide +kernel)
  · exact tbl_at 218 (by decide +kernel)
theorem hx_app {x y c : va_W} : ∀ {is : List Nat}, is.map (fun i => x[i]?) = c.map some → is.map (fun i => (x ++ y)[i]?) = c.map some := by
  intro is h
  rw [← h]
  refine List.map_congr_left (fun i hi => ?_)
  have h1 : x[i]? ∈ is.map (fun i => x[i]?) := List.mem_map.mpr ⟨i, hi, rfl⟩
  rw [h] at h1
  obtain ⟨q, -, hq⟩ := List.mem_map.mp h1
  exact List.getElem?_append_left (List.getElem?_eq_some_iff.mp hq.symm).1
section HQ
variable {p : Program} {l : Launch} {e : Env} {R : Room} {s : State} {m : MethodId} {args : Array Value} {below : List Frame} {meth : Method} {c : Code} {H : Heap} {locs : List Loc} {cells slots : Nat} {Q : State → Prop} {cc : ByteArray} {nL : Nat} {Ts : List Cond} {own : String} {A : Nat → Prop} {H0 : Heap} {D : va_G} {tys : List (ClassId × FieldType)} {wA wc pl : va_W} {pc : Nat} {ls : Array Slot} {rest st0 : List Value} {y : MethodName} {wsy ws' : List Cond} {rm : Room} {bytes : ByteArray} {maxL : Nat} {index : Nat} {As : List Value} {b : Nat} {mc ms : Nat}
/-- a call out of the first of two worlds -/
theorem hcQ_i {S : Type} {post : Int32 → S → Prop} {Wn : S → va_W} {C : String} {T : u_T} {N ci : Nat} {fs : List Value} {ret : Option FieldType} (wn : S → va_W) (X : WCtx p s m args c cc nL Ts own H0 A D tys) (hP : va_P D vwCl (wA ++ pl) H) (hD : va_D A (wA ++ pl)) (hS : va_S A H0 H locs) (hl : ls.size = nL) (wr : va_W) (isC isR isB : List Nat) (n q0 : Nat)
    (hM : CtrI l y wsy rm D tys (.ref b :: As) wc post Wn mc ms) (hC : isC.map (fun i => wA[i]?) = wc.map some) (hR : isR.map (fun i => wA[i]?) = wr.map some) (hB : ∀ u, isB.map (fun i => (wr ++ Wn u)[i]?) = (wn u).map some) (hn : hNd isC isR isB = true)
    (hG : GoodIn Ts (wsV own index C y wsy)) (hw : wsy = Cond.code y bytes maxL ret :: ws') (hrc : rm.cells = mc) (hrs : rm.slots = ms) (hy : y.cls = C) (hd : hNm y n) (hRm : rm.frames + 1 ≤ R.frames ∧ 8 + (maxL + 11) + rm.locals ≤ R.locals)
    (hc : vwCl[ci]? = some (C, T, N)) (he : wA[q0]? = some (b, .inr (ci, fs))) (hlen : As.length = n) (hst : st0 = As.reverse ++ .ref b :: rest) (hcat : (rest.map fun v => v.category).sum ≤ 8) (hdg : decode cc pc = .ok (.invokevirtual index, 3)) (hroom : cells + mc ≤ R.cells ∧ slots + ms ≤ R.slots)
    (kk : ∀ (r : Int32) (u : S) (H1 : Heap) (locs1 : List Loc), post r u → va_P D vwCl (wn u ++ pl) H1 → va_D A (wn u ++ pl) → va_S A H0 H1 locs1 → W p l e R s m args below meth c H1 locs1 (cells + mc) (slots + ms) Q (F0 m (pc + 3) ls (.int r :: rest))) : W p l e R s m args below meth c H locs cells slots Q (F0 m pc ls st0) := by
  obtain ⟨F, hA, hK, hN⟩ := X
  obtain ⟨n1, n2, n3, n4⟩ := hNd_spec hn
  have hC' := hx_app (y := pl) hC
  have he' : (wA ++ pl)[q0]? = some (b, .inr (ci, fs)) := by
    rw [List.getElem?_append_left (List.getElem?_eq_some_iff.mp he).1]; exact he
  have hFc := va_free hD hS hA isC hC'
  refine va_calli (va_runV F (hM H.size) (cwV n F.2.2.2.2 hG hw hrc hrs ⟨hy, hd⟩ hRm) ⟨hPre_blind, va_recv hK hP hc he', hc_preL hK hN hP hD hC' hn⟩ rfl hlen hl hst (lv_room hcat) hdg hroom) hS (fun q _ h => hFc q h) hFc (fun r u t H1 locs1 ht hvm hw hBu hz1 hk1 hS1 => ?_)
  obtain ⟨hP1, hK1, hD1⟩ := hBu
  rw [ht] at hP1
  obtain ⟨hP2, hD2⟩ := va_joinQ hP hD isC isR hC hR n2 n4 hk1 hFc hP1 hD1
  exact kk r u H1 locs1 hw (fun k q hq => hP2 _ q (va_part isB (hB u) k q hq)) (hD2.part isB n3 (hB u)) hS1
end HQ
theorem sw_P {D : va_G} {H : Heap} {x y : va_W} (h : va_P D vwCl (x ++ y) H) : va_P D vwCl (y ++ x) H := va_P.swap (a := []) (b := x) (c := y) h
theorem sw_D {A : Nat → Prop} {x y : va_W} (h : va_D A (x ++ y)) : va_D A (y ++ x) := va_D.swap (a := []) (b := x) (c := y) h
/-- the class's and the reference's worlds say the same -/
abbrev RelL (pst8 pst2 : Nat → SVt) (I : Nat → Int32) (F : Nat → Nat → Int32) (J : Nat → Int32) (G : Nat → Nat → Int32) : Prop :=
  RelX (I 0) (F 0) (I 2) (I 3) (I 4) (F 2) (F 3) (F 5) (F 6) (F 7) (I 8) (I 9) (F 14) (F 15) (F 16) (I 10) pst8 (I 11) pst2 (I 12) (F 18) (F 19) (F 20) (J 0) (J 1) (J 2) (G 0) (G 1) (G 2) (G 3) (G 4) (G 5) (G 12) (J 6) (J 7) (J 8) (G 13) (J 12) (G 14) (G 15) (G 16) (J 13)
abbrev lawLv (b x d i : Nat) : List (Nat × Value) := [(3, .int (nI i)), (0, .ref b), (1, .ref x), (2, .ref d)]
theorem law_in {L i : Nat} (hL : L ≤ 2560) (hi : i + 5 ≤ L) (j : Nat) (hj : j < 5) : vp_in (nI i + nI j) L := by
  rw [na]; exact ni_out (by omega) (by omega)
