/-! what is made: names, kinds, room -/
def p_nw (N : pN) (I : pI) (L : pL) (P : pR) (S : Nat × Nat) : pN × pI × pL × pR := (p_nx N S, p_z I N.1 0, p_z L N.1 0, p_z P N.1 none)
def p_ext (N N' : pN) : Prop := ∀ q t, p_tp N q t → p_tp N' q t
theorem p_ext.rf {N : pN} : p_ext N N := fun _ _ h => h
theorem p_ext.tr {N N' N'' : pN} (h : p_ext N N') (h2 : p_ext N' N'') : p_ext N N'' := fun q t g => h2 q t (h q t g)
theorem p_nxx {N : pN} {S : Nat × Nat} : p_ext N (p_nx N S) := by
  intro q t h
  refine ⟨Nat.lt_succ_of_lt h.1, ?_⟩
  show (if q = N.1 then S else N.2 q).1 = t
  rw [if_neg (Nat.ne_of_lt h.1)]
  exact h.2
theorem p_nwx {N : pN} {I : pI} {L : pL} {P : pR} {S : Nat × Nat} {w : pN × pI × pL × pR} (e : w = p_nw N I L P S) : p_ext N w.1 := by
  subst e
  exact p_nxx
theorem p_nws {N : pN} {I : pI} {L : pL} {P : pR} {S : Nat × Nat} {w : pN × pI × pL × pR} (e : w = p_nw N I L P S) : p_tp w.1 N.1 S.1 := by
  subst e
  refine ⟨Nat.lt_succ_self _, ?_⟩
  show (if N.1 = N.1 then S else N.2 N.1).1 = S.1
  rw [if_pos rfl]
theorem p_nww {N : pN} {I : pI} {L : pL} {P : pR} {S : Nat × Nat} {w : pN × pI × pL × pR} (e : w = p_nw N I L P S) (h : WT N P) : WT w.1 w.2.2.2 := by
  subst e
  intro a ha
  by_cases hq : a = N.1
  · subst hq
    refine ⟨fun ci _ k q hk => ?_, fun _ k q hk => ?_⟩ <;> simp [p_nw, p_z] at hk
  · have ha2 : a < N.1 := by
      have : a < N.1 + 1 := ha
      omega
    have hs : (p_nw N I L P S).1.2 a = N.2 a := if_neg hq
    have hp : (p_nw N I L P S).2.2.2 a = P a := p_z_ne hq
    rw [hs, hp]
    exact ⟨fun ci hc k q hk => p_nxx _ _ ((h a ha2).1 ci hc k q hk), fun hc k q hk => p_nxx _ _ ((h a ha2).2 hc k q hk)⟩
/-- a size up to a cap -/
def p_sz (z : Int32) (cap : Nat) : Bool := !decide (z < 0) && decide (z.toNatClampNeg ≤ cap)
theorem p_szx {z : Int32} {cap : Nat} (h : p_sz z cap = true) : ¬ z < 0 ∧ z.toNatClampNeg ≤ cap := by
  unfold p_sz at h
  simp only [Bool.and_eq_true, Bool.not_eq_true', decide_eq_false_iff_not, decide_eq_true_eq] at h
  exact h
section Alloc
variable {G : pG} {M M' : pM} {mc ms cs sl mc' ms' d n : Nat} {Q : pQ} {pc : Nat} {lo : List (Nat × Value)} {st st0 as : List Value} {N N' : pN} {I I' : pI} {L L' : pL} {P P' : pR}
theorem a_nm {R : Room} (k : ∀ w : pN × pI × pL × pR, w = (N, I, L, P) → SW G M R mc ms cs sl Q pc lo st w.1 w.2.1 w.2.2.1 w.2.2.2) : SW G M R mc ms cs sl Q pc lo st N I L P := k (N, I, L, P) rfl
theorem a_new {idx ci : Nat} {q : vw_C} (hd : decode M.2.1 pc = .ok (.new idx, 3)) (hq : p_cls[ci]? = some q) (hlk : Cond.classLink M.1.cls idx q.1 ∈ p_tbl) (hcs : cs + 1 ≤ mc) (hsl : sl + q.2.2 ≤ ms) (hn : decide (N.1 < 1000000) = true)
    (kk : ∀ w : pN × pI × pL × pR, w = p_nw N I L P (ci + 3, 0) → SW G M (p_rm d mc ms) mc ms (cs + 1) (sl + q.2.2) Q (pc + 3) lo (.ref N.1 :: st) w.1 w.2.1 w.2.2.1 w.2.2.2) : SW G M (p_rm d mc ms) mc ms cs sl Q pc lo st N I L P :=
  s_new hq hlk hcs hsl (of_decide_eq_true hn) hd (kk _ rfl)
theorem a_newI {z : Int32} {cap : Nat} (hd : decode M.2.1 pc = .ok (.newarray .int, 2)) (hz : p_sz z cap = true) (hcap : cap ≤ 100000) (hcs : cs + 1 ≤ mc) (hsl : sl + cap ≤ ms) (hn : decide (N.1 < 1000000) = true)
    (kk : ∀ w : pN × pI × pL × pR, w = p_nw N I L P (0, z.toNatClampNeg) → SW G M (p_rm d mc ms) mc ms (cs + 1) (sl + cap) Q (pc + 2) lo (.ref N.1 :: st) w.1 w.2.1 w.2.2.1 w.2.2.2) : SW G M (p_rm d mc ms) mc ms cs sl Q pc lo (.int z :: st) N I L P := by
  obtain ⟨h1, h2⟩ := p_szx hz
  exact s_newI w_int h1 rfl (by omega) hcs (Nat.le_trans (Nat.add_le_add_left h2 sl) hsl) (of_decide_eq_true hn) hd (s_widen (Nat.le_refl _) (Nat.add_le_add_left h2 sl) (kk _ rfl))
theorem a_newZ {z : Int32} {cap : Nat} (hd : decode M.2.1 pc = .ok (.newarray .boolean, 2)) (hz : p_sz z cap = true) (hcap : cap ≤ 100000) (hcs : cs + 1 ≤ mc) (hsl : sl + cap ≤ ms) (hn : decide (N.1 < 1000000) = true)
    (kk : ∀ w : pN × pI × pL × pR, w = p_nw N I L P (1, z.toNatClampNeg) → SW G M (p_rm d mc ms) mc ms (cs + 1) (sl + cap) Q (pc + 2) lo (.ref N.1 :: st) w.1 w.2.1 w.2.2.1 w.2.2.2) : SW G M (p_rm d mc ms) mc ms cs sl Q pc lo (.int z :: st) N I L P := by
  obtain ⟨h1, h2⟩ := p_szx hz
  exact s_newZ w_bool h1 rfl (by omega) hcs (Nat.le_trans (Nat.add_le_add_left h2 sl) hsl) (of_decide_eq_true hn) hd (s_widen (Nat.le_refl _) (Nat.add_le_add_left h2 sl) (kk _ rfl))
theorem a_anew {idx : Nat} {z : Int32} {cap : Nat} (hd : decode M.2.1 pc = .ok (.anewarray idx, 3)) (hlk : Cond.classLink M.1.cls idx RX7 ∈ p_tbl) (hz : p_sz z cap = true) (hcap : cap ≤ 100000) (hcs : cs + 1 ≤ mc) (hsl : sl + cap ≤ ms) (hn : decide (N.1 < 1000000) = true)
    (kk : ∀ w : pN × pI × pL × pR, w = p_nw N I L P (2, z.toNatClampNeg) → SW G M (p_rm d mc ms) mc ms (cs + 1) (sl + cap) Q (pc + 3) lo (.ref N.1 :: st) w.1 w.2.1 w.2.2.1 w.2.2.2) : SW G M (p_rm d mc ms) mc ms cs sl Q pc lo (.int z :: st) N I L P := by
  obtain ⟨h1, h2⟩ := p_szx hz
  exact s_anew hlk h1 rfl (by omega) hcs (Nat.le_trans (Nat.add_le_add_left h2 sl) hsl) (of_decide_eq_true hn) hd (s_widen (Nat.le_refl _) (Nat.add_le_add_left h2 sl) (kk _ rfl))
theorem p_rr2 {d m mc ms : Nat} (h : 1 ≤ d) (hm : m ≤ 81) : (d - 1) + 1 ≤ (p_rm d mc ms).frames ∧ 19 + m + 100 * (d - 1) ≤ (p_rm d mc ms).locals := p_rr h hm
theorem z_obj {idx a : Nat} (hd : decode M.2.1 pc = .ok (.invokespecial idx, 3)) (hw : Cond.methodLink M.1.cls idx Lib.objectInit ∈ p_tbl) (h1 : 1 ≤ d) (hcat : (st.map fun v => v.category).sum ≤ 8) (k : SW G M (p_rm d mc ms) mc ms cs sl Q (pc + 3) lo st N I L P) : SW G M (p_rm d mc ms) mc ms cs sl Q pc lo (.ref a :: st) N I L P :=
  s_objInit hw w_obj hd ⟨h1, by show 20 ≤ 100 * d; omega⟩ hcat k
theorem z_max {idx : Nat} {x y : Int32} (hd : decode M.2.1 pc = .ok (.invokestatic idx, 3)) (hlk : Cond.methodLink M.1.cls idx Lib.Math.max.name ∈ p_tbl) (h1 : 1 ≤ d) (hcat : (st.map fun v => v.category).sum ≤ 8) (hcs : cs ≤ mc) (hsl : sl ≤ ms) (k : SW G M (p_rm d mc ms) mc ms cs sl Q (pc + 3) lo (.int (if x < y then y else x) :: st) N I L P) : SW G M (p_rm d mc ms) mc ms cs sl Q pc lo (.int y :: .int x :: st) N I L P :=
  s_max hlk w_mx hd ⟨h1, by show 21 ≤ 100 * d; omega⟩ ⟨hcs, hsl⟩ hcat k
theorem z_callV1 {idx a ci : Nat} {v : Value} (hd : decode M.2.1 pc = .ok (.invokevirtual idx, 3)) (hM : MT G M' (d - 1) 0 0 (.ref a :: as) N I L P (p_R (some v) N' I' L' P')) (hk : p_MK M' n) (hv : p_MV M') (hlk : Cond.methodLink M.1.cls idx M'.1 ∈ p_tbl) (hn : as.length = n) (hst : st0 = as.reverse ++ .ref a :: st) (hcat : (st.map fun v => v.category).sum ≤ 8) (ha : p_tp N a (ci + 3)) (hcn : p_nm ci = M'.1.cls) (h1 : 1 ≤ d) (hm : M'.2.2.1 ≤ 81) (hcs : cs ≤ mc) (hsl : sl ≤ ms)
    (kk : SW G M (p_rm d mc ms) mc ms cs sl Q (pc + 3) lo (v :: st) N' I' L' P') : SW G M (p_rm d mc ms) mc ms cs sl Q pc lo st0 N I L P :=
  x_callV hd hM hk hv hlk hn hst hcat ha hcn (p_rr2 h1 hm) ⟨hcs, hsl⟩ kk
theorem z_callV0 {idx a ci : Nat} (hd : decode M.2.1 pc = .ok (.invokevirtual idx, 3)) (hM : MT G M' (d - 1) 0 0 (.ref a :: as) N I L P (p_R none N' I' L' P')) (hk : p_MK M' n) (hv : p_MV M') (hlk : Cond.methodLink M.1.cls idx M'.1 ∈ p_tbl) (hn : as.length = n) (hst : st0 = as.reverse ++ .ref a :: st) (hcat : (st.map fun v => v.category).sum ≤ 8) (ha : p_tp N a (ci + 3)) (hcn : p_nm ci = M'.1.cls) (h1 : 1 ≤ d) (hm : M'.2.2.1 ≤ 81) (hcs : cs ≤ mc) (hsl : sl ≤ ms)
    (kk : SW G M (p_rm d mc ms) mc ms cs sl Q (pc + 3) lo st N' I' L' P') : SW G M (p_rm d mc ms) mc ms cs sl Q pc lo st0 N I L P :=
  x_callV hd hM hk hv hlk hn hst hcat ha hcn (p_rr2 h1 hm) ⟨hcs, hsl⟩ kk
/-- a virtual call that makes cells -/
theorem z_callVA {idx a ci : Nat} {v : Value} (hd : decode M.2.1 pc = .ok (.invokevirtual idx, 3)) (hM : MT G M' (d - 1) mc' ms' (.ref a :: as) N I L P (p_R (some v) N' I' L' P')) (hk : p_MK M' n) (hv : p_MV M') (hlk : Cond.methodLink M.1.cls idx M'.1 ∈ p_tbl) (hn : as.length = n) (hst : st0 = as.reverse ++ .ref a :: st) (hcat : (st.map fun v => v.category).sum ≤ 8) (ha : p_tp N a (ci + 3)) (hcn : p_nm ci = M'.1.cls) (h1 : 1 ≤ d) (hm : M'.2.2.1 ≤ 81) (hcs : cs + mc' ≤ mc) (hsl : sl + ms' ≤ ms)
    (kk : SW G M (p_rm d mc ms) mc ms (cs + mc') (sl + ms') Q (pc + 3) lo (v :: st) N' I' L' P') : SW G M (p_rm d mc ms) mc ms cs sl Q pc lo st0 N I L P :=
  x_callV hd hM hk hv hlk hn hst hcat ha hcn (p_rr2 h1 hm) ⟨hcs, hsl⟩ kk
theorem z_callI {idx a t : Nat} (hd : decode M.2.1 pc = .ok (.invokespecial idx, 3)) (hM : MT G M' (d - 1) mc' ms' (.ref a :: as) N I L P (p_R none N' I' L' P')) (hk : p_MK M' n) (hi : Cond.instanceMethod M'.1 ∈ p_tbl) (hy : M'.1.name = "<init>") (hr : M'.2.2.2 = none) (hlk : Cond.methodLink M.1.cls idx M'.1 ∈ p_tbl) (hn : as.length = n) (hst : st0 = as.reverse ++ .ref a :: st) (hcat : (st.map fun v => v.category).sum ≤ 8) (ha : p_tp N a t) (h1 : 1 ≤ d) (hm : M'.2.2.1 ≤ 81) (hcs : cs + mc' ≤ mc) (hsl : sl + ms' ≤ ms)
    (kk : SW G M (p_rm d mc ms) mc ms (cs + mc') (sl + ms') Q (pc + 3) lo st N' I' L' P') : SW G M (p_rm d mc ms) mc ms cs sl Q pc lo st0 N I L P :=
  x_callI hd hM hk hi hy hr hlk hn hst hcat ha.1 (p_rr2 h1 hm) ⟨hcs, hsl⟩ kk
theorem z_callIN {idx a t : Nat} (hd : decode M.2.1 pc = .ok (.invokespecial idx, 3)) (hM : MT G M' (d - 1) mc' ms' (.ref a :: as) N I L P (p_R none N' I' L' P')) (hk : p_MK M' n) (hi : Cond.instanceMethod M'.1 ∈ p_tbl) (hy : M'.1.name = "<init>") (hr : M'.2.2.2 = none) (hlk : (M.1.cls, idx, M'.1) ∈ p_nst) (hn : as.length = n) (hst : st0 = as.reverse ++ .ref a :: st) (hcat : (st.map fun v => v.category).sum ≤ 8) (ha : p_tp N a t) (h1 : 1 ≤ d) (hm : M'.2.2.1 ≤ 81) (hcs : cs + mc' ≤ mc) (hsl : sl + ms' ≤ ms)
    (kk : SW G M (p_rm d mc ms) mc ms (cs + mc') (sl + ms') Q (pc + 3) lo st N' I' L' P') : SW G M (p_rm d mc ms) mc ms cs sl Q pc lo st0 N I L P :=
  x_callIN hd hM hk hi hy hr hlk hn hst hcat ha.1 (p_rr2 h1 hm) ⟨hcs, hsl⟩ kk
end Alloc
/-- a State comes into a row of States -/
theorem WT.put2 {N : pN} {P : pR} (h : WT N P) {a k v : Nat} (ha : p_tp N a 2) (hv : p_tp N v 10) : WT N (p_u P a k (some v)) := by
  intro x hx
  by_cases e : x = a
  · subst e
    refine ⟨fun ci hc => ?_, fun h2 j q hq => ?_⟩
    · exfalso
      have := ha.2
      omega
    · by_cases ej : j = k
      · subst ej
        rw [p_u_self] at hq
        cases hq
        exact hv
      · rw [p_u_nk ej] at hq
        exact (h x hx).2 h2 j q hq
  · rw [p_u_ne e]
    exact h x hx
