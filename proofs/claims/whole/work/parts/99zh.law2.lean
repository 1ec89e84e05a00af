/-! the law: the abstract line -/
/-- a test of a law begins at token t: [not] about [sign number]; where it ends (the token behind it), or the first bad token -/
def q_nt (B : Nat → Nat) (s i : Nat) : Bool := decide (q_wo B s i = 32)
def q_ab (B : Nat → Nat) (s i : Nat) : Nat := if q_nt B s i = true then q_te B s i else i
def q_sgn (B : Nat → Nat) (s i : Nat) : Bool := decide (q_sn B s i = 60 ∨ q_sn B s i = 61 ∨ q_sn B s i = 62)
/-- the first bad place of a test, or none -/
def q_tbad (B : Nat → Nat) (s i : Nat) : Option Nat :=
  if ¬ (10 ≤ q_wo B s (q_ab B s i) ∧ q_wo B s (q_ab B s i) ≤ 16) then some (q_ab B s i)
  else if q_wo B s (q_ab B s i) = 10 then none
  else if q_sgn B s (q_te B s (q_ab B s i)) = false then some (q_te B s (q_ab B s i))
  else if q_isn B s (q_te B s (q_te B s (q_ab B s i))) = false then some (q_te B s (q_te B s (q_ab B s i)))
  else none
/-- where it goes on behind a test -/
def q_tnx (B : Nat → Nat) (s i : Nat) : Nat := if q_wo B s (q_ab B s i) = 10 then q_te B s (q_ab B s i) else q_te B s (q_te B s (q_te B s (q_ab B s i)))
section Law2
variable {B : Nat → Nat} {s i : Nat}
theorem q_ab_b (hi : i ≤ s) : i ≤ q_ab B s i ∧ q_ab B s i ≤ s := by
  unfold q_ab
  have h1 := q_tp_b (B := B) hi
  have h2 := q_te_b (B := B) hi
  split <;> omega
theorem q_tnx_b (hi : i ≤ s) : i ≤ q_tnx B s i ∧ q_tnx B s i ≤ s := by
  have h0 := q_ab_b (B := B) hi
  have h1 := q_tp_b (B := B) h0.2
  have h2 := q_te_b (B := B) h0.2
  have h3 := q_tp_b (B := B) h2.2.1
  have h4 := q_te_b (B := B) h2.2.1
  have h5 := q_tp_b (B := B) h4.2.1
  have h6 := q_te_b (B := B) h4.2.1
  unfold q_tnx
  split <;> omega
end Law2
