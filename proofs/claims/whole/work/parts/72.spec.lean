/-! loops by what stays true -/
theorem p_loopI {S T : Type} {B : (S → Option T) → S → Option T} {zJ : Nat → S → Prop} {zE : T → Prop} {zm zn : Nat} (hn1 : zm < zn) (hstep : ∀ zk, zk < zm → ∀ zs, zJ zk zs → (∃ zs2, zJ (zk + 1) zs2 ∧ ∀ zrec, B zrec zs = zrec zs2) ∨ ∃ zt, zE zt ∧ ∀ zrec, B zrec zs = some zt) (hend : ∀ zs, zJ zm zs → ∃ zt, zE zt ∧ ∀ zrec, B zrec zs = some zt) : ∀ zs, zJ 0 zs → ∃ zt, p_it B zn zs = some zt ∧ zE zt := by
  have hmain : ∀ (zr zk zn2 : Nat), zk + zr = zm → zr < zn2 → ∀ zs, zJ zk zs → ∃ zt, p_it B zn2 zs = some zt ∧ zE zt := by
    intro zr
    induction zr with
    | zero =>
      intro zk zn2 hk1 hn2 zs hj1
      have ek : zk = zm := by omega
      rw [ek] at hj1
      obtain ⟨zt, ht1, ht2⟩ := hend zs hj1
      obtain ⟨zn3, rfl⟩ : ∃ zn3, zn2 = zn3 + 1 := ⟨zn2 - 1, by omega⟩
      exact ⟨zt, ht2 _, ht1⟩
    | succ zr ih =>
      intro zk zn2 hk1 hn2 zs hj1
      obtain ⟨zn3, rfl⟩ : ∃ zn3, zn2 = zn3 + 1 := ⟨zn2 - 1, by omega⟩
      rcases hstep zk (by omega) zs hj1 with ⟨zs2, hs1, hs2⟩ | ⟨zt, ht1, ht2⟩
      · obtain ⟨zt, ht1, ht2⟩ := ih (zk + 1) zn3 (by omega) (by omega) zs2 hs1
        exact ⟨zt, by show B (p_it B zn3) zs = _; rw [hs2]; exact ht1, ht2⟩
      · exact ⟨zt, ht2 _, ht1⟩
  intro zs hj1
  exact hmain zm 0 zn (by omega) (by omega) zs hj1
/-- what is done for 0, 1 .. up to m -/
def q_fold {α : Type} (f : Nat → α → α) : Nat → α → α
  | 0, x => x
  | k + 1, x => f k (q_fold f k x)
/-! the town, as both see it: T is the row of numbers -/
abbrev nv (x : Int32) : Nat := x.toNatClampNeg
def rg (x : Int32) (m : Nat) : Prop := x = nI (nv x) ∧ nv x ≤ m
theorem rg.of {k m : Nat} (h : k ≤ m) (h2 : m < 2 ^ 31) : rg (nI k) m := by
  have e : nv (nI k) = k := nI_clamp (by omega)
  unfold rg
  rw [e]
  exact ⟨rfl, h⟩
def q_w (T : Nat → Int32) (w k : Nat) : Int32 := T (30 + 7 * w + k)
def q_til (T : Nat → Int32) : Int32 := if T 5 = -1 then T 4 else T 5
def q_there (T : Nat → Int32) (a b : Int32) : Bool := if q_til T < a then false else if b < 0 then true else if b ≤ q_til T then false else true
def q_seeW (T : Nat → Int32) (w : Nat) : Bool := decide (w < nv (T 0)) && q_there T (q_w T w 5) (q_w T w 6)
def q_up (T : Nat → Int32) (w : Nat) : Bool := decide (q_w T w 0 = q_w T w 2)
def q_side (T : Nat → Int32) (w : Nat) (x y p : Int64) : Int64 := if q_up T w = true then x - (q_w T w 0).toInt64 * p else y - (q_w T w 1).toInt64 * p
def q_abs (x : Int64) : Int64 := if 0 ≤ x then x else -x
def q_opp (x y : Int64) : Bool := (decide (x < 0) && decide (0 < y)) || (decide (0 < x) && decide (y < 0))
def q_alk (x y : Int64) : Bool := (decide (x < 0) && decide (y < 0)) || (decide (0 < x) && decide (0 < y))
abbrev qP : Type := Int64 × Int64 × Int64
def q_over (T : Nat → Int32) (w : Nat) (a b : qP) : qP := (a.1 * q_abs (q_side T w b.1 b.2.1 b.2.2) + b.1 * q_abs (q_side T w a.1 a.2.1 a.2.2), a.2.1 * q_abs (q_side T w b.1 b.2.1 b.2.2) + b.2.1 * q_abs (q_side T w a.1 a.2.1 a.2.2), a.2.2 * q_abs (q_side T w b.1 b.2.1 b.2.2) + b.2.2 * q_abs (q_side T w a.1 a.2.1 a.2.2))
def q_hit (T : Nat → Int32) (w : Nat) (o : qP) : Bool := if q_up T w = true then !decide (o.2.1 < (q_w T w 1).toInt64 * o.2.2) && !decide ((q_w T w 3).toInt64 * o.2.2 < o.2.1) else !decide (o.1 < (q_w T w 0).toInt64 * o.2.2) && !decide ((q_w T w 2).toInt64 * o.2.2 < o.1)
def q_thr (T : Nat → Int32) (w : Nat) : Int32 := T (23 + nv (q_w T w 4))
def q_bck (T : Nat → Int32) (w : Nat) : Int32 := T (18 + nv (q_w T w 4))
/-- a leg over a wall -/
def q_meet (T : Nat → Int32) (w : Nat) (a b : qP) : Bool := q_opp (q_side T w a.1 a.2.1 a.2.2) (q_side T w b.1 b.2.1 b.2.2) && q_hit T w (q_over T w a b)
def q_leg1 (T : Nat → Int32) (a b : qP) (w : Nat) (s : Int64 × Bool) : Int64 × Bool := if q_seeW T w && q_meet T w a b then (s.1 * (q_thr T w).toInt64 / 100, s.2 || decide (q_thr T w = 0)) else s
def q_leg (T : Nat → Int32) (a b : qP) (s : Int64 × Bool) : Int64 × Bool := q_fold (q_leg1 T a b) (nv (T 0)) s
def q_mx (T : Nat → Int32) (w : Nat) (x : Int64) : Int64 := if q_up T w = true then 2 * (q_w T w 0).toInt64 - x else x
def q_my (T : Nat → Int32) (w : Nat) (y : Int64) : Int64 := if q_up T w = true then y else 2 * (q_w T w 1).toInt64 - y
def q_beg (p : Int32) (d : Int64) : Int64 := p.toInt64 * 1000 / (if d = 0 then 1 else d)
/-- a way: kind, first, second, the two squares, its strength -/
abbrev qW : Type := Int32 × Int32 × Int32 × Int32 × Int32 × Int32
def q_add (l : List qW) (k f g : Int32) (a b : Int64) (s : Int64 × Bool) : List qW := if s.2 = true then l else l ++ [(k, f, g, a.toInt32, b.toInt32, s.1.toInt32)]
def q_sq (a b : Int64) : Int64 := a * a + b * b
