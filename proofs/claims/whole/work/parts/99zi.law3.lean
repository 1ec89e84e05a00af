/-! the law: the class's draft -/
section Law3
variable {N : pN} {P : pR} {I : pI} {r : Nat}
theorem c_put65 (hT : TB N P I 65 66 16 18 r) {row j : Nat} (hrow : row < 1000) (hj : j < 10000) (v : Int32) : ∃ V, f_X8_put N I P 65 (nI row) (nI j) v = some V ∧ (∀ x, x ≠ 66 → V x = I x) ∧ (∀ k, k ≠ row * 18 + j → V 66 k = I 66 k) ∧ (row < r → j < 18 → V 66 (row * 18 + j) = v) := by
  have h6 := hT.2.2.2.2.2.1
  by_cases h1 : row < r
  · by_cases h2 : j < 18
    · exact ⟨_, tb_put hT h1 h2, fun x hx => p_u_ne hx, fun k hk => p_u_nk hk, fun _ _ => p_u_self⟩
    · exact ⟨I, tb_put_w hT (by omega) (by omega), fun _ _ => rfl, fun _ _ => rfl, fun _ h => absurd h h2⟩
  · exact ⟨I, tb_put_n hT (Or.inr (nI_le (by omega) (by omega))), fun _ _ => rfl, fun _ _ => rfl, fun h => absurd h h1⟩
end Law3
