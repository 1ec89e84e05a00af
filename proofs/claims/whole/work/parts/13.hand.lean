/-! checks, copies, texts -/
def p_ck {β : Type} (b : Bool) (x : Option β) : Option β := if b = true then x else none
theorem p_ckx {β : Type} {b : Bool} {x : Option β} {r : β} (h : p_ck b x = some r) : b = true ∧ x = some r := p_if h
def p_cb (N : pN) (a0 a1 : Nat) (sp dp n : Int32) : Bool := !decide (sp < 0) && (!decide (dp < 0) && (!decide (n < 0) && (decide (sp.toNatClampNeg + n.toNatClampNeg ≤ (N.2 a0).2) && decide (dp.toNatClampNeg + n.toNatClampNeg ≤ (N.2 a1).2))))
def p_cy (I : pI) (a0 a1 : Nat) (sp dp n : Int32) : pI := fun x => if x = a1 then va_cpy (I a0) (I a1) sp.toNatClampNeg dp.toNatClampNeg n.toNatClampNeg else I x
def p_sx (a : Nat) : Prop := 1000100 ≤ a ∧ a < 1000116
theorem p_sx_ {a : Nat} (h : (decide (1000100 ≤ a) && decide (a < 1000116)) = true) : p_sx a := by
  simp only [Bool.and_eq_true, decide_eq_true_eq] at h
  exact h
section Hand
variable {G : pG} {M M' : pM} {mc ms cs sl d n : Nat} {R : Room} {Q : pQ} {pc : Nat} {lo lo' : List (Nat × Value)} {st st0 as : List Value} {N N' : pN} {I I' : pI} {L L' : pL} {P P' : pR}
theorem y_copy {idx a0 a1 : Nat} {sp dp z : Int32} (hd : decode M.2.1 pc = .ok (.invokestatic idx, 3)) (hlk : Cond.methodLink M.1.cls idx arraycopyName ∈ p_tbl) (h0 : p_tp N a0 0) (h1 : p_tp N a1 0) (hb : p_cb N a0 a1 sp dp z = true) (h2 : 1 ≤ d) (hcat : (st.map fun v => v.category).sum ≤ 8) (kk : SW G M (p_rm d 0 0) 0 0 0 0 Q (pc + 3) lo st N (p_cy I a0 a1 sp dp z) L P) : SW G M (p_rm d 0 0) 0 0 0 0 Q pc lo (.int z :: .int dp :: .ref a1 :: .int sp :: .ref a0 :: st) N I L P := by
  unfold p_cb at hb
  simp only [Bool.and_eq_true, Bool.not_eq_true', decide_eq_false_iff_not, decide_eq_true_eq] at hb
  obtain ⟨b1, b2, b3, b4, b5⟩ := hb
  exact s_copy hlk w_copy hd h0.1 (p_sh h0) h1.1 (p_sh h1) b1 b2 b3 b4 b5 h2 (by show _ ≤ 100 * d; omega) kk
end Hand
def f_J0_length_8abf5 (a0 : Nat) : Option Int32 := some (nI (p_len.getD (a0 - 1000100) 0))
def f_J0_charAt_5068e (a0 : Nat) (x1 : Int32) : Option Int32 := p_ck (!decide (x1 < 0) && decide (x1.toNatClampNeg < p_len.getD (a0 - 1000100) 0)) (some ((p_byt.getD (a0 - 1000100) []).getD x1.toNatClampNeg 0))
