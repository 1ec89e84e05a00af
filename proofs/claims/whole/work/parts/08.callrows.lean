section CallRows
variable {G : pG} {M M' : pM} {R : Room} {mc ms cs sl mc' ms' d n : Nat} {Q Q' : pQ} {pc : Nat} {lo lo' : List (Nat × Value)} {st st0 as : List Value} {N : pN} {I : pI} {L : pL} {P : pR}
theorem p_pre {p : Program} {s : State} {m : MethodId} {args : Array Value} {meth : Method} {c : Code} {H : Heap} {locs : List Loc} (B : p_B G M p s m args meth c) (hH : p_H G N I L P H) (hS : va_S (p_A G) s.heap H locs) (U : State) (hU : U.heap = H) (hW : s.WarmedH U.vm) : p_E G U :=
  B.2.2.2.2.2.2.2.2.to hW (by rw [hU, hH.1]; omega) (fun q hq => by
    rw [hU]
    exact hS.2.1 q (Nat.lt_of_lt_of_le hq B.2.2.2.2.2.2.2.2.2.1) (Nat.not_le.mpr hq))
/-- a method of an object -/
theorem s_callV {idx a ci z : Nat} (hM : MT G M' d mc' ms' (.ref a :: as) N I L P Q') (hk : p_MK M' n) (hv : p_MV M') (hlk : Cond.methodLink M.1.cls idx M'.1 ∈ p_tbl) (hd : decode M.2.1 pc = .ok (.invokevirtual idx, 3)) (hn : as.length = n) (hst : st0 = as.reverse ++ .ref a :: st) (hcat : (st.map fun v => v.category).sum ≤ 8) (ha : a < N.1) (hs : N.2 a = (ci + 3, z)) (hcn : p_nm ci = M'.1.cls) (hR : d + 1 ≤ R.frames ∧ 19 + M'.2.2.1 + 100 * d ≤ R.locals) (hf : cs + mc' ≤ R.cells ∧ sl + ms' ≤ R.slots)
    (kk : ∀ (r : Option Value) (N' : pN) (I' : pI) (L' : pL) (P' : pR), Q' r N' I' L' P' → SW G M R mc ms (cs + mc') (sl + ms') Q (pc + 3) lo (r.toList ++ st) N' I' L' P') : SW G M R mc ms cs sl Q pc lo st0 N I L P := by
  intro p e s m args below meth c H locs ls B hH hS hl
  have hts := B.2.2.2.2.2.2.2.1
  have hadr : p_v G (.ref a) = .ref (g_b G + a) := by show Value.ref (p_ad G a) = _; rw [p_ad_lo (Nat.lt_of_lt_of_le ha hH.2.1)]
  have hrecv : ∃ cellB : Cell, H[g_b G + a]? = some cellB ∧ cellB.vm.isStatics = false ∧ s.vm.findClass M'.1.cls = some cellB.cls := by
    have hc := hH.2.2 a ha
    rw [hs] at hc
    obtain ⟨c0, hc0, cell, q1, q2, q3, -⟩ := hc
    have hKn := (B.2.2.2.2.2.2.2.2.1.1 ci c0 hc0).2.1
    refine ⟨cell, q1, by rw [q3]; rfl, ?_⟩
    rw [q2, ← hcn]
    simp only [p_nm, hc0]
    exact hKn
  refine p_back B hH hS hl (va_runV (As := as.map (p_v G)) (rest := st.map (p_v G)) (b := g_b G + a) (C := M'.1.cls) (n := n) (g := F0 m pc ls (st0.map (p_v G))) ⟨B.1, B.2.1, B.2.2.1, B.2.2.2.2.2.1, hts⟩ hM ⟨callB_of n hts (p_good hk.1) rfl rfl rfl (hts _ hk.2.1) (hts _ hlk) hk.2.2 ⟨hR.1, by show 8 + (M'.2.2.1 + 11) + 100 * d ≤ R.locals; omega⟩, hts _ hv.1, hts _ hv.2⟩ ⟨p_blind, hrecv, fun U hU hW => ⟨?_, p_pre B hH hS U hU hW, by rw [hU]; exact hH⟩⟩ rfl (by rw [List.length_map]; exact hn) hl.1 ?_ (lv_room (by rw [p_cat]; exact hcat)) hd hf) kk
  · rw [List.map_cons, hadr]
  · show st0.map (p_v G) = _
    rw [hst, List.map_append, List.map_reverse, List.map_cons, hadr]
/-- a static method of its own class or another one -/
theorem s_callS {idx : Nat} (hM : MT G M' d mc' ms' as N I L P Q') (hk : p_MK M' n) (hv : Cond.static M'.1 ∈ p_tbl) (hlk : Cond.methodLink M.1.cls idx M'.1 ∈ p_tbl) (hd : decode M.2.1 pc = .ok (.invokestatic idx, 3)) (hn : as.length = n) (hst : st0 = as.reverse ++ st) (hcat : (st.map fun v => v.category).sum ≤ 8) (hR : d + 1 ≤ R.frames ∧ 19 + M'.2.2.1 + 100 * d ≤ R.locals) (hf : cs + mc' ≤ R.cells ∧ sl + ms' ≤ R.slots)
    (kk : ∀ (r : Option Value) (N' : pN) (I' : pI) (L' : pL) (P' : pR), Q' r N' I' L' P' → SW G M R mc ms (cs + mc') (sl + ms') Q (pc + 3) lo (r.toList ++ st) N' I' L' P') : SW G M R mc ms cs sl Q pc lo st0 N I L P := by
  intro p e s m args below meth c H locs ls B hH hS hl
  have hts := B.2.2.2.2.2.2.2.1
  refine p_back B hH hS hl (va_runS (As := as.map (p_v G)) (rest := st.map (p_v G)) (n := n) (g := F0 m pc ls (st0.map (p_v G))) ⟨B.1, B.2.1, B.2.2.1, B.2.2.2.2.2.1, hts⟩ hM ⟨callB_of n hts (p_good hk.1) rfl rfl rfl (hts _ hk.2.1) (hts _ hlk) hk.2.2 ⟨hR.1, by show 8 + (M'.2.2.1 + 11) + 100 * d ≤ R.locals; omega⟩, hts _ hv⟩ ⟨p_blind, fun U hU hW => ⟨rfl, p_pre B hH hS U hU hW, by rw [hU]; exact hH⟩⟩ rfl (by rw [List.length_map]; exact hn) hl.1 ?_ (lv_room (by rw [p_cat]; exact hcat)) hd hf) kk
  show st0.map (p_v G) = _
  rw [hst, List.map_append, List.map_reverse]
/-- a nest mate's private static method -/
theorem s_callSN {idx : Nat} (hM : MT G M' d mc' ms' as N I L P Q') (hk : p_MK M' n) (hv : Cond.static M'.1 ∈ p_tbl) (hlk : (M.1.cls, idx, M'.1) ∈ p_nst) (hd : decode M.2.1 pc = .ok (.invokestatic idx, 3)) (hn : as.length = n) (hst : st0 = as.reverse ++ st) (hcat : (st.map fun v => v.category).sum ≤ 8) (hR : d + 1 ≤ R.frames ∧ 19 + M'.2.2.1 + 100 * d ≤ R.locals) (hf : cs + mc' ≤ R.cells ∧ sl + ms' ≤ R.slots)
    (kk : ∀ (r : Option Value) (N' : pN) (I' : pI) (L' : pL) (P' : pR), Q' r N' I' L' P' → SW G M R mc ms (cs + mc') (sl + ms') Q (pc + 3) lo (r.toList ++ st) N' I' L' P') : SW G M R mc ms cs sl Q pc lo st0 N I L P := by
  intro p e s m args below meth c H locs ls B hH hS hl
  have hts := B.2.2.2.2.2.2.2.1
  have hnw := B.2.2.2.2.2.2.2.2.2.2.2.2.2.2.2.2.1 _ hlk
  refine p_back B hH hS hl (va_runSN (As := as.map (p_v G)) (rest := st.map (p_v G)) (n := n) (g := F0 m pc ls (st0.map (p_v G))) ⟨B.1, B.2.1, B.2.2.1, B.2.2.2.2.2.1, hts⟩ hM ⟨va_cnB n hts (p_good hk.1) rfl rfl rfl hnw (hts _ hk.2.1) hk.2.2 ⟨hR.1, by show 8 + (M'.2.2.1 + 11) + 100 * d ≤ R.locals; omega⟩, hts _ hv, trivial⟩ ⟨p_blind, fun U hU hW => ⟨rfl, p_pre B hH hS U hU hW, by rw [hU]; exact hH⟩⟩ rfl (by rw [List.length_map]; exact hn) hl.1 ?_ (lv_room (by rw [p_cat]; exact hcat)) hd hf) kk
  show st0.map (p_v G) = _
  rw [hst, List.map_append, List.map_reverse]
/-- a constructor -/
theorem s_callI {idx a : Nat} (hM : MT G M' d mc' ms' (.ref a :: as) N I L P Q') (hk : p_MK M' n) (hi : Cond.instanceMethod M'.1 ∈ p_tbl) (hy : M'.1.name = "<init>") (hr : M'.2.2.2 = none) (hlk : Cond.methodLink M.1.cls idx M'.1 ∈ p_tbl) (hd : decode M.2.1 pc = .ok (.invokespecial idx, 3)) (hn : as.length = n) (hst : st0 = as.reverse ++ .ref a :: st) (hcat : (st.map fun v => v.category).sum ≤ 8) (ha : a < N.1) (hR : d + 1 ≤ R.frames ∧ 19 + M'.2.2.1 + 100 * d ≤ R.locals) (hf : cs + mc' ≤ R.cells ∧ sl + ms' ≤ R.slots)
    (kk : ∀ (r : Option Value) (N' : pN) (I' : pI) (L' : pL) (P' : pR), Q' r N' I' L' P' → SW G M R mc ms (cs + mc') (sl + ms') Q (pc + 3) lo (r.toList ++ st) N' I' L' P') : SW G M R mc ms cs sl Q pc lo st0 N I L P := by
  intro p e s m args below meth c H locs ls B hH hS hl
  have hts := B.2.2.2.2.2.2.2.1
  have hadr : p_v G (.ref a) = .ref (g_b G + a) := by show Value.ref (p_ad G a) = _; rw [p_ad_lo (Nat.lt_of_lt_of_le ha hH.2.1)]
  obtain ⟨y', cc', nL', ret'⟩ := M'
  have hr' : ret' = none := hr
  subst hr'
  refine p_back B hH hS hl (va_runI (As := as.map (p_v G)) (rest := st.map (p_v G)) (b := g_b G + a) (n := n) (g := F0 m pc ls (st0.map (p_v G))) ⟨B.1, B.2.1, B.2.2.1, B.2.2.2.2.2.1, hts⟩ hM ⟨callB_of n hts (p_good hk.1) rfl rfl rfl (hts _ hk.2.1) (hts _ hlk) hk.2.2 ⟨hR.1, by show 8 + (nL' + 11) + 100 * d ≤ R.locals; have := hR.2; simp only at this; omega⟩, hy, hts _ hi⟩ ⟨p_blind, fun U hU hW => ⟨?_, p_pre B hH hS U hU hW, by rw [hU]; exact hH⟩⟩ rfl (by rw [List.length_map]; exact hn) hl.1 ?_ (lv_room (by rw [p_cat]; exact hcat)) hd hf) kk
  · rw [List.map_cons, hadr]
  · show st0.map (p_v G) = _
    rw [hst, List.map_append, List.map_reverse, List.map_cons, hadr]
/-- a nest mate's private constructor -/
theorem s_callIN {idx a : Nat} (hM : MT G M' d mc' ms' (.ref a :: as) N I L P Q') (hk : p_MK M' n) (hi : Cond.instanceMethod M'.1 ∈ p_tbl) (hy : M'.1.name = "<init>") (hr : M'.2.2.2 = none) (hlk : (M.1.cls, idx, M'.1) ∈ p_nst) (hd : decode M.2.1 pc = .ok (.invokespecial idx, 3)) (hn : as.length = n) (hst : st0 = as.reverse ++ .ref a :: st) (hcat : (st.map fun v => v.category).sum ≤ 8) (ha : a < N.1) (hR : d + 1 ≤ R.frames ∧ 19 + M'.2.2.1 + 100 * d ≤ R.locals) (hf : cs + mc' ≤ R.cells ∧ sl + ms' ≤ R.slots)
    (kk : ∀ (r : Option Value) (N' : pN) (I' : pI) (L' : pL) (P' : pR), Q' r N' I' L' P' → SW G M R mc ms (cs + mc') (sl + ms') Q (pc + 3) lo (r.toList ++ st) N' I' L' P') : SW G M R mc ms cs sl Q pc lo st0 N I L P := by
  intro p e s m args below meth c H locs ls B hH hS hl
  have hts := B.2.2.2.2.2.2.2.1
  have hadr : p_v G (.ref a) = .ref (g_b G + a) := by show Value.ref (p_ad G a) = _; rw [p_ad_lo (Nat.lt_of_lt_of_le ha hH.2.1)]
  have hnw := B.2.2.2.2.2.2.2.2.2.2.2.2.2.2.2.2.1 _ hlk
  obtain ⟨y', cc', nL', ret'⟩ := M'
  have hr' : ret' = none := hr
  subst hr'
  refine p_back B hH hS hl (va_runIN (As := as.map (p_v G)) (rest := st.map (p_v G)) (b := g_b G + a) (n := n) (g := F0 m pc ls (st0.map (p_v G))) ⟨B.1, B.2.1, B.2.2.1, B.2.2.2.2.2.1, hts⟩ hM ⟨va_cnB n hts (p_good hk.1) rfl rfl rfl hnw (hts _ hk.2.1) hk.2.2 ⟨hR.1, by show 8 + (nL' + 11) + 100 * d ≤ R.locals; have := hR.2; simp only at this; omega⟩, hy, hts _ hi⟩ ⟨p_blind, fun U hU hW => ⟨?_, p_pre B hH hS U hU hW, by rw [hU]; exact hH⟩⟩ rfl (by rw [List.length_map]; exact hn) hl.1 ?_ (lv_room (by rw [p_cat]; exact hcat)) hd hf) kk
  · rw [List.map_cons, hadr]
  · show st0.map (p_v G) = _
    rw [hst, List.map_append, List.map_reverse, List.map_cons, hadr]
/-- Object's constructor -/
theorem s_objInit {idx a : Nat} (hw : Cond.methodLink M.1.cls idx Lib.objectInit ∈ p_tbl) (hw2 : Cond.instanceMethod Lib.objectInit ∈ p_tbl ∧ Cond.code Lib.objectInit ⟨#[0xb1]⟩ 1 none ∈ p_tbl) (hd : decode M.2.1 pc = .ok (.invokespecial idx, 3)) (hR : 1 ≤ R.frames ∧ 20 ≤ R.locals) (hcat : (st.map fun v => v.category).sum ≤ 8) (k : SW G M R mc ms cs sl Q (pc + 3) lo st N I L P) : SW G M R mc ms cs sl Q pc lo (.ref a :: st) N I L P := by
  intro p e s m args below meth c H locs ls B hH hS hl
  have hts := B.2.2.2.2.2.2.2.1
  exact W.objInit (g := F0 m pc ls ((Value.ref a :: st).map (p_v G))) B.1 B.2.1 B.2.2.2.2.2.1 (hts _ hw) (hts _ hw2.1) (hts _ hw2.2) rfl (by rw [B.2.2.1]; exact hl.1) (rest := st.map (p_v G)) rfl hd hR.1 (by show 2 * 0 + _ + 12 ≤ _; rw [p_cat]; omega) (k p e s m args below meth c H locs ls B hH hS hl)
/-- Math.max, Math.min -/
def p_Mx : Prop := Cond.static Lib.Math.max.name ∈ p_tbl ∧ Cond.initialized "java/lang/Math" ∈ p_tbl ∧ Cond.code Lib.Math.max.name Lib.Math.max.code 2 (some .int) ∈ p_tbl
def p_Mn : Prop := Cond.static Lib.Math.min.name ∈ p_tbl ∧ Cond.initialized "java/lang/Math" ∈ p_tbl ∧ Cond.code Lib.Math.min.name Lib.Math.min.code 2 (some .int) ∈ p_tbl
theorem s_max {idx : Nat} {x y : Int32} (hlk : Cond.methodLink M.1.cls idx Lib.Math.max.name ∈ p_tbl) (hw : p_Mx) (hd : decode M.2.1 pc = .ok (.invokestatic idx, 3)) (hR : 1 ≤ R.frames ∧ 21 ≤ R.locals) (hf : cs ≤ R.cells ∧ sl ≤ R.slots) (hcat : (st.map fun v => v.category).sum ≤ 8) (k : SW G M R mc ms cs sl Q (pc + 3) lo (.int (if x < y then y else x) :: st) N I L P) : SW G M R mc ms cs sl Q pc lo (.int y :: .int x :: st) N I L P := by
  intro p e s m args below meth c H locs ls B hH hS hl
  have hts := B.2.2.2.2.2.2.2.1
  exact va_mmax B.1 B.2.1 (by rw [B.2.2.1]; exact hl.1.symm) B.2.2.2.2.2.1 (hts _ hlk) (hts _ hw.1) (hts _ hw.2.1) (hts _ hw.2.2) hR.1 (by rw [p_cat]; omega) hf.1 hf.2 hd (k p e s m args below meth c H locs ls B hH hS hl)
theorem s_min {idx : Nat} {x y : Int32} (hlk : Cond.methodLink M.1.cls idx Lib.Math.min.name ∈ p_tbl) (hw : p_Mn) (hd : decode M.2.1 pc = .ok (.invokestatic idx, 3)) (hR : 1 ≤ R.frames ∧ 21 ≤ R.locals) (hf : cs ≤ R.cells ∧ sl ≤ R.slots) (hcat : (st.map fun v => v.category).sum ≤ 8) (k : SW G M R mc ms cs sl Q (pc + 3) lo (.int (if y < x then y else x) :: st) N I L P) : SW G M R mc ms cs sl Q pc lo (.int y :: .int x :: st) N I L P := by
  intro p e s m args below meth c H locs ls B hH hS hl
  have hts := B.2.2.2.2.2.2.2.1
  exact va_mmin B.1 B.2.1 (by rw [B.2.2.1]; exact hl.1.symm) B.2.2.2.2.2.1 (hts _ hlk) (hts _ hw.1) (hts _ hw.2.1) (hts _ hw.2.2) hR.1 (by rw [p_cat]; omega) hf.1 hf.2 hd (k p e s m args below meth c H locs ls B hH hS hl)
end CallRows
