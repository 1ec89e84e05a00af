/-! loops, names, rows without room -/
def p_it {S T : Type} (body : (S → Option T) → S → Option T) : Nat → S → Option T
  | 0, _ => none
  | k + 1, s => body (p_it body k) s
theorem p_it_ind {S T : Type} {body : (S → Option T) → S → Option T} {t : T} {C : S → Prop} (h : ∀ rec, (∀ s, rec s = some t → C s) → ∀ s, body rec s = some t → C s) : ∀ k s, p_it body k s = some t → C s := by
  intro k
  induction k with
  | zero => intro s hs; cases hs
  | succ k ih => intro s hs; exact h _ ih s hs
def p_let {α β : Type} (x : α) (f : α → Option β) : Option β := f x
theorem p_lx {α β : Type} {x : α} {f : α → Option β} {r : β} (h : p_let x f = some r) {y : α} (hy : y = x) : f y = some r := by
  subst hy
  exact h
theorem p_lx2 {α β : Type} {x : α} {f : α → Option β} {r : β} (h : p_let x f = some r) : ∃ y, y = x ∧ f y = some r := ⟨x, rfl, h⟩
def p_cs {β : Type} (r : Option Nat) (x : Option β) (f : Nat → Option β) : Option β := match r with
  | none => x
  | some q => f q
theorem p_cs_n {β : Type} {r : Option Nat} {x : Option β} {f : Nat → Option β} {t : β} (h : p_cs r x f = some t) (e : r = none) : x = some t := by subst e; exact h
theorem p_cs_s {β : Type} {r : Option Nat} {x : Option β} {f : Nat → Option β} {t : β} (h : p_cs r x f = some t) {q : Nat} (e : r = some q) : f q = some t := by subst e; exact h
theorem p_ps {β : Type} {c : Prop} [Decidable c] {x y r : β} (h : (if c then x else y) = r) (hc : c) : x = r := by rw [if_pos hc] at h; exact h
theorem p_ng {β : Type} {c : Prop} [Decidable c] {x y r : β} (h : (if c then x else y) = r) (hc : ¬ c) : y = r := by rw [if_neg hc] at h; exact h
theorem p_rr {d m : Nat} (h : 1 ≤ d) (hm : m ≤ 81) : (d - 1) + 1 ≤ (p_rm d 0 0).frames ∧ 19 + m + 100 * (d - 1) ≤ (p_rm d 0 0).locals := by
  refine ⟨?_, ?_⟩
  · show (d - 1) + 1 ≤ d; omega
  · show 19 + m + 100 * (d - 1) ≤ 100 * d; omega
theorem p_dd {d K Kc : Nat} (h : K ≤ d) (h2 : Kc + 1 ≤ K) : Kc ≤ d - 1 := by omega
theorem p_d1 {d K : Nat} (h : K ≤ d) (h2 : 1 ≤ K) : 1 ≤ d := by omega
/-- the static rows -/
def p_row (j : Nat) : List Int32 := match j with
  | 0 => [1, 0, 1, 100, 10, 10, 1]
  | 1 => [0, 0, 0, 0, 1, 0, 1]
  | 2 => [2, 100, 9999, 9999, 9999, 999, 9]
  | 3 => [0, 0, 0, 0, 0, 0, 0, 0, 1, 0, 0, 0, 0, 0, 0, 0, 0, 1, 1, 0]
  | 4 => [20, 20, 20, 20, 4, 20, 20, 5, 9999, 0, 20, 20, 0, 0, 0, 20, 20, 9999, 999, 0]
  | _ => []
def p_rb (j : Nat) (i : Int32) : Bool := !decide (i < 0) && decide (i.toNatClampNeg < (p_row j).length)
theorem p_rb_in {j : Nat} {i : Int32} (h : p_rb j i = true) : vp_in i (p_row j).length := by
  unfold p_rb at h
  simp only [Bool.and_eq_true, Bool.not_eq_true', decide_eq_false_iff_not, decide_eq_true_eq] at h
  intro h2
  rcases h2 with h2 | h2
  · exact h.1 h2
  · exact absurd h.2 (Nat.not_lt.mpr h2)
section Rows3
variable {G : pG} {M M' : pM} {mc ms cs sl d n : Nat} {R : Room} {Q : pQ} {pc : Nat} {lo lo' : List (Nat × Value)} {st st0 as : List Value} {N N' : pN} {I I' : pI} {L L' : pL} {P P' : pR}
theorem s_nmI (k : ∀ y : pI, y = I → SW G M R mc ms cs sl Q pc lo st N y L P) : SW G M R mc ms cs sl Q pc lo st N I L P := k I rfl
theorem s_nmL (k : ∀ y : pL, y = L → SW G M R mc ms cs sl Q pc lo st N I y P) : SW G M R mc ms cs sl Q pc lo st N I L P := k L rfl
theorem s_nmP (k : ∀ y : pR, y = P → SW G M R mc ms cs sl Q pc lo st N I L y) : SW G M R mc ms cs sl Q pc lo st N I L P := k P rfl
theorem y_tld {j : Nat} {i : Int32} {q : String × String × List Int32} (hd : decode M.2.1 pc = .ok (.iaload, 1)) (hq : p_st[j]? = some q) (hr : q.2.2 = p_row j) (hi : p_rb j i = true) (kk : SW G M R mc ms cs sl Q (pc + 1) lo (.int ((p_row j).getD i.toNatClampNeg 0) :: st) N I L P) : SW G M R mc ms cs sl Q pc lo (.int i :: .ref (1000000 + j) :: st) N I L P :=
  s_tld hq (p_st_ok j q hq) hd (by rw [hr]; exact p_rb_in hi) (by rw [hr]; exact kk)
theorem y_tlen {j : Nat} {v : Int32} {q : String × String × List Int32} (hd : decode M.2.1 pc = .ok (.arraylength, 1)) (hq : p_st[j]? = some q) (hv : Int32.ofNat q.2.2.length = v) (kk : SW G M R mc ms cs sl Q (pc + 1) lo (.int v :: st) N I L P) : SW G M R mc ms cs sl Q pc lo (.ref (1000000 + j) :: st) N I L P := s_tlen hq hd hv kk
theorem y_max {idx : Nat} {x y : Int32} (hd : decode M.2.1 pc = .ok (.invokestatic idx, 3)) (hlk : Cond.methodLink M.1.cls idx Lib.Math.max.name ∈ p_tbl) (h1 : 1 ≤ d) (hcat : (st.map fun v => v.category).sum ≤ 8) (k : SW G M (p_rm d 0 0) 0 0 0 0 Q (pc + 3) lo (.int (if x < y then y else x) :: st) N I L P) : SW G M (p_rm d 0 0) 0 0 0 0 Q pc lo (.int y :: .int x :: st) N I L P :=
  s_max hlk w_mx hd ⟨h1, by show 21 ≤ 100 * d; omega⟩ ⟨Nat.le_refl _, Nat.le_refl _⟩ hcat k
theorem y_min {idx : Nat} {x y : Int32} (hd : decode M.2.1 pc = .ok (.invokestatic idx, 3)) (hlk : Cond.methodLink M.1.cls idx Lib.Math.min.name ∈ p_tbl) (h1 : 1 ≤ d) (hcat : (st.map fun v => v.category).sum ≤ 8) (k : SW G M (p_rm d 0 0) 0 0 0 0 Q (pc + 3) lo (.int (if y < x then y else x) :: st) N I L P) : SW G M (p_rm d 0 0) 0 0 0 0 Q pc lo (.int y :: .int x :: st) N I L P :=
  s_min hlk w_mn hd ⟨h1, by show 21 ≤ 100 * d; omega⟩ ⟨Nat.le_refl _, Nat.le_refl _⟩ hcat k
theorem y_callV1 {idx a ci : Nat} {v : Value} (hd : decode M.2.1 pc = .ok (.invokevirtual idx, 3)) (hM : MT G M' (d - 1) 0 0 (.ref a :: as) N I L P (p_R (some v) N' I' L' P')) (hk : p_MK M' n) (hv : p_MV M') (hlk : Cond.methodLink M.1.cls idx M'.1 ∈ p_tbl) (hn : as.length = n) (hst : st0 = as.reverse ++ .ref a :: st) (hcat : (st.map fun v => v.category).sum ≤ 8) (ha : p_tp N a (ci + 3)) (hcn : p_nm ci = M'.1.cls) (h1 : 1 ≤ d) (hm : M'.2.2.1 ≤ 81)
    (kk : SW G M (p_rm d 0 0) 0 0 0 0 Q (pc + 3) lo (v :: st) N' I' L' P') : SW G M (p_rm d 0 0) 0 0 0 0 Q pc lo st0 N I L P :=
  x_callV hd hM hk hv hlk hn hst hcat ha hcn (p_rr h1 hm) ⟨Nat.le_refl _, Nat.le_refl _⟩ kk
theorem y_callV0 {idx a ci : Nat} (hd : decode M.2.1 pc = .ok (.invokevirtual idx, 3)) (hM : MT G M' (d - 1) 0 0 (.ref a :: as) N I L P (p_R none N' I' L' P')) (hk : p_MK M' n) (hv : p_MV M') (hlk : Cond.methodLink M.1.cls idx M'.1 ∈ p_tbl) (hn : as.length = n) (hst : st0 = as.reverse ++ .ref a :: st) (hcat : (st.map fun v => v.category).sum ≤ 8) (ha : p_tp N a (ci + 3)) (hcn : p_nm ci = M'.1.cls) (h1 : 1 ≤ d) (hm : M'.2.2.1 ≤ 81)
    (kk : SW G M (p_rm d 0 0) 0 0 0 0 Q (pc + 3) lo st N' I' L' P') : SW G M (p_rm d 0 0) 0 0 0 0 Q pc lo st0 N I L P :=
  x_callV hd hM hk hv hlk hn hst hcat ha hcn (p_rr h1 hm) ⟨Nat.le_refl _, Nat.le_refl _⟩ kk
theorem y_callS1 {idx : Nat} {v : Value} (hd : decode M.2.1 pc = .ok (.invokestatic idx, 3)) (hM : MT G M' (d - 1) 0 0 as N I L P (p_R (some v) N' I' L' P')) (hk : p_MK M' n) (hv : Cond.static M'.1 ∈ p_tbl) (hlk : Cond.methodLink M.1.cls idx M'.1 ∈ p_tbl) (hn : as.length = n) (hst : st0 = as.reverse ++ st) (hcat : (st.map fun v => v.category).sum ≤ 8) (h1 : 1 ≤ d) (hm : M'.2.2.1 ≤ 81)
    (kk : SW G M (p_rm d 0 0) 0 0 0 0 Q (pc + 3) lo (v :: st) N' I' L' P') : SW G M (p_rm d 0 0) 0 0 0 0 Q pc lo st0 N I L P :=
  x_callS hd hM hk hv hlk hn hst hcat (p_rr h1 hm) ⟨Nat.le_refl _, Nat.le_refl _⟩ kk
theorem y_callS0 {idx : Nat} (hd : decode M.2.1 pc = .ok (.invokestatic idx, 3)) (hM : MT G M' (d - 1) 0 0 as N I L P (p_R none N' I' L' P')) (hk : p_MK M' n) (hv : Cond.static M'.1 ∈ p_tbl) (hlk : Cond.methodLink M.1.cls idx M'.1 ∈ p_tbl) (hn : as.length = n) (hst : st0 = as.reverse ++ st) (hcat : (st.map fun v => v.category).sum ≤ 8) (h1 : 1 ≤ d) (hm : M'.2.2.1 ≤ 81)
    (kk : SW G M (p_rm d 0 0) 0 0 0 0 Q (pc + 3) lo st N' I' L' P') : SW G M (p_rm d 0 0) 0 0 0 0 Q pc lo st0 N I L P :=
  x_callS hd hM hk hv hlk hn hst hcat (p_rr h1 hm) ⟨Nat.le_refl _, Nat.le_refl _⟩ kk
theorem y_callSN1 {idx : Nat} {v : Value} (hd : decode M.2.1 pc = .ok (.invokestatic idx, 3)) (hM : MT G M' (d - 1) 0 0 as N I L P (p_R (some v) N' I' L' P')) (hk : p_MK M' n) (hv : Cond.static M'.1 ∈ p_tbl) (hlk : (M.1.cls, idx, M'.1) ∈ p_nst) (hn : as.length = n) (hst : st0 = as.reverse ++ st) (hcat : (st.map fun v => v.category).sum ≤ 8) (h1 : 1 ≤ d) (hm : M'.2.2.1 ≤ 81)
    (kk : SW G M (p_rm d 0 0) 0 0 0 0 Q (pc + 3) lo (v :: st) N' I' L' P') : SW G M (p_rm d 0 0) 0 0 0 0 Q pc lo st0 N I L P :=
  x_callSN hd hM hk hv hlk hn hst hcat (p_rr h1 hm) ⟨Nat.le_refl _, Nat.le_refl _⟩ kk
theorem y_ifnull {r : Option Nat} {off : Int} {tgt : Nat} (hd : decode M.2.1 pc = .ok (.ifnull off, 3)) (ht : (pc : Int) + off = (tgt : Int)) (kt : r = none → SW G M R mc ms cs sl Q tgt lo st N I L P) (kf : ∀ q, r = some q → SW G M R mc ms cs sl Q (pc + 3) lo st N I L P) : SW G M R mc ms cs sl Q pc lo (va_rf r :: st) N I L P := by
  cases r with
  | none => exact s_ifnullN hd ht (kt rfl)
  | some q => exact s_ifnull hd (kf q rfl)
theorem y_ifnonnull {r : Option Nat} {off : Int} {tgt : Nat} (hd : decode M.2.1 pc = .ok (.ifnonnull off, 3)) (ht : (pc : Int) + off = (tgt : Int)) (kt : ∀ q, r = some q → SW G M R mc ms cs sl Q tgt lo st N I L P) (kf : r = none → SW G M R mc ms cs sl Q (pc + 3) lo st N I L P) : SW G M R mc ms cs sl Q pc lo (va_rf r :: st) N I L P := by
  cases r with
  | none => exact s_ifnonnullN hd (kf rfl)
  | some q => exact s_ifnonnull hd ht (kt q rfl)
theorem y_acmp_eq {x y t u : Nat} {off : Int} {tgt : Nat} (hd : decode M.2.1 pc = .ok (.if_acmp .eq off, 3)) (ht : (pc : Int) + off = (tgt : Int)) (hx : p_tp N x t) (hy : p_tp N y u) (kt : x = y → SW G M R mc ms cs sl Q tgt lo st N I L P) (kf : ¬ x = y → SW G M R mc ms cs sl Q (pc + 3) lo st N I L P) : SW G M R mc ms cs sl Q pc lo (.ref y :: .ref x :: st) N I L P := by
  intro p e s m args below meth c H locs ls B hH hS hl
  have hb := hH.2.1
  have h1 := hx.1
  have h2 := hy.1
  exact s_acmp_eq hd ht (by omega) (by omega) kt kf p e s m args below meth c H locs ls B hH hS hl
/-- a number that is not zero -/
theorem y_idiv {x y : Int32} (hd : decode M.2.1 pc = .ok (.idiv, 1)) (hz : ¬ y = 0) (k : SW G M R mc ms cs sl Q (pc + 1) lo (.int (x / y) :: st) N I L P) : SW G M R mc ms cs sl Q pc lo (.int y :: .int x :: st) N I L P := s_idiv hd hz k
end Rows3
theorem p_nr {x : Int32} (h : x = 0 ∨ x = 1) : narrow .boolean (.int x) = .int x := by
  rcases h with h | h <;> subst h <;> rfl
