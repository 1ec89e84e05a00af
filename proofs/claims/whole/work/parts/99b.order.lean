/-! the order of ways -/
def y_sg (e u v : Nat) : Int32 := if u + e * e ≤ v then (if (v - u - e * e) * (v - u - e * e) ≤ 4 * (e * e) * u then (if 4 * (e * e) * u ≤ (v - u - e * e) * (v - u - e * e) then nI 0 else nI 1) else -1) else nI 1
def y_cm (s u t v : Nat) : Int32 := if t ≤ s then y_sg (s - t) u v else - y_sg (t - s) v u
theorem y_sg_tri (e u v : Nat) : y_sg e u v = nI 0 ∨ y_sg e u v = nI 1 ∨ y_sg e u v = -1 := by
  unfold y_sg
  split
  · split
    · split
      · exact Or.inl rfl
      · exact Or.inr (Or.inl rfl)
    · exact Or.inr (Or.inr rfl)
  · exact Or.inr (Or.inl rfl)
theorem y_cm_tri (s u t v : Nat) : y_cm s u t v = nI 0 ∨ y_cm s u t v = nI 1 ∨ y_cm s u t v = -1 := by
  unfold y_cm
  split
  · exact y_sg_tri _ _ _
  · rcases y_sg_tri (t - s) v u with h | h | h <;> rw [h] <;> decide
theorem y_sg0 (u v : Nat) : y_sg 0 v u = - y_sg 0 u v := by
  unfold y_sg
  simp only [Nat.mul_zero, Nat.add_zero, Nat.zero_mul, Nat.sub_zero]
  rcases Nat.lt_trichotomy u v with h | h | h
  · have h1 : ¬ v ≤ u := by omega
    have h2 : ¬ (v - u) * (v - u) ≤ 0 := by
      have := Nat.mul_pos (show 0 < v - u by omega) (show 0 < v - u by omega)
      omega
    rw [if_neg h1, if_pos (show u ≤ v by omega), if_neg h2]
    decide
  · subst h
    simp only [Nat.sub_self, Nat.mul_zero, Nat.le_refl, if_true]
    decide
  · have h1 : ¬ u ≤ v := by omega
    have h2 : ¬ (u - v) * (u - v) ≤ 0 := by
      have := Nat.mul_pos (show 0 < u - v by omega) (show 0 < u - v by omega)
      omega
    rw [if_neg h1, if_pos (show v ≤ u by omega), if_neg h2]
    decide
theorem y_cm_neg (s u t v : Nat) : y_cm t v s u = - y_cm s u t v := by
  unfold y_cm
  rcases Nat.lt_trichotomy s t with h | h | h
  · rw [if_pos (show s ≤ t by omega), if_neg (show ¬ t ≤ s by omega), Int32.neg_neg]
  · subst h
    rw [if_pos (Nat.le_refl _), if_pos (Nat.le_refl _), Nat.sub_self]
    exact y_sg0 u v
  · rw [if_neg (show ¬ s ≤ t by omega), if_pos (show t ≤ s by omega)]
theorem y_cm_le {s u t v : Nat} : (y_cm s u t v ≤ 0) ↔ y_le s u t v := by
  unfold y_cm y_le y_sg
  by_cases h : t ≤ s
  · rw [if_pos h, if_pos h]
    by_cases h1 : u + (s - t) * (s - t) ≤ v
    · rw [if_pos h1]
      by_cases h2 : (v - u - (s - t) * (s - t)) * (v - u - (s - t) * (s - t)) ≤ 4 * ((s - t) * (s - t)) * u
      · rw [if_pos h2]
        by_cases h3 : 4 * ((s - t) * (s - t)) * u ≤ (v - u - (s - t) * (s - t)) * (v - u - (s - t) * (s - t))
        · rw [if_pos h3]
          exact ⟨fun _ => ⟨h1, h3⟩, fun _ => by decide⟩
        · rw [if_neg h3]
          exact ⟨fun e => absurd e (by decide), fun e => absurd e.2 h3⟩
      · rw [if_neg h2]
        exact ⟨fun _ => ⟨h1, by omega⟩, fun _ => by decide⟩
    · rw [if_neg h1]
      exact ⟨fun e => absurd e (by decide), fun e => absurd e.1 h1⟩
  · rw [if_neg h, if_neg h]
    by_cases h1 : v + (t - s) * (t - s) ≤ u
    · rw [if_pos h1]
      by_cases h2 : (u - v - (t - s) * (t - s)) * (u - v - (t - s) * (t - s)) ≤ 4 * ((t - s) * (t - s)) * v
      · rw [if_pos h2]
        refine ⟨fun _ => Or.inr h2, fun _ => ?_⟩
        split <;> decide
      · rw [if_neg h2]
        refine ⟨fun e => absurd e (by decide), fun e => ?_⟩
        rcases e with e | e
        · omega
        · exact absurd e h2
    · rw [if_neg h1]
      exact ⟨fun _ => Or.inl (by omega), fun _ => by decide⟩
theorem y_toInt {x y z : Nat} (hx : x < 2 ^ 40) (hy : y < 2 ^ 40) (hz : z < 2 ^ 40) : ((lN x - lN y) - lN z).toInt = (x : Int) - y - z := by
  have e1 := pk_lT (n := x) (by omega)
  have e2 := pk_lT (n := y) (by omega)
  have e3 := pk_lT (n := z) (by omega)
  have e4 : (lN x - lN y).toInt = (x : Int) - y := by
    rw [Int64.toInt_sub, e1, e2, Int.bmod_def]
    omega
  rw [Int64.toInt_sub, e4, e3, Int.bmod_def]
  omega
theorem y_sg4 {e u v : Nat} (he : e ≤ 28800) (hu : u ≤ 2560000) (hv : v ≤ 2560000) : q_sg4 (lN e) (lN u) (lN v) = y_sg e u v := by
  have hee : e * e ≤ 28800 * 28800 := Nat.mul_le_mul he he
  have h4 : (4 * lN e * lN e) * lN u = lN (4 * (e * e) * u) := by
    show (lN 4 * lN e * lN e) * lN u = _
    rw [lN_mul, lN_mul, lN_mul, Nat.mul_assoc 4 e e]
  have h5 : 4 * (e * e) * u ≤ 4 * (28800 * 28800) * 2560000 := Nat.mul_le_mul (Nat.mul_le_mul_left _ hee) hu
  unfold q_sg4 y_sg
  rw [h4, lN_mul]
  have z0 : (0 : Int64).toInt = 0 := rfl
  have hti := y_toInt (x := v) (y := u) (z := e * e) (by omega) (by omega) (by omega)
  by_cases h1 : u + e * e ≤ v
  · have e6 : lN v - lN u - lN (e * e) = lN (v - u - e * e) := by rw [lN_sub (by omega), lN_sub (by omega)]
    have e7 : (v - u - e * e) * (v - u - e * e) ≤ 2560000 * 2560000 := Nat.mul_le_mul (by omega) (by omega)
    have e8 : (0 : Int64) ≤ lN (v - u - e * e) := by
      rw [Int64.le_iff_toInt_le, z0, pk_lT (by omega)]
      omega
    rw [e6, if_pos e8, if_pos h1, lN_mul]
    by_cases g1 : (v - u - e * e) * (v - u - e * e) ≤ 4 * (e * e) * u
    · rw [if_pos ((pk_lLE (by omega) (by omega)).mpr g1), if_pos g1]
      by_cases g2 : 4 * (e * e) * u ≤ (v - u - e * e) * (v - u - e * e)
      · rw [if_pos ((pk_lLE (by omega) (by omega)).mpr g2), if_pos g2]
      · rw [if_neg (fun h => g2 ((pk_lLE (by omega) (by omega)).mp h)), if_neg g2]
    · rw [if_neg (fun h => g1 ((pk_lLE (by omega) (by omega)).mp h)), if_neg g1]
  · have e8 : ¬ (0 : Int64) ≤ lN v - lN u - lN (e * e) := by
      rw [Int64.le_iff_toInt_le, z0, hti]
      omega
    rw [if_neg e8, if_neg h1]
theorem y_cmp {a b c d : Nat} (h1 : a + b ≤ 28800) (h2 : c + d ≤ 28800) (h3 : 4 * a * b ≤ 2560000) (h4 : 4 * c * d ≤ 2560000) : q_cmp (lN a) (lN b) (lN c) (lN d) = y_cm (a + b) (4 * a * b) (c + d) (4 * c * d) := by
  have e1 : 4 * lN a * lN b = lN (4 * a * b) := by show lN 4 * lN a * lN b = _; rw [lN_mul, lN_mul]
  have e2 : 4 * lN c * lN d = lN (4 * c * d) := by show lN 4 * lN c * lN d = _; rw [lN_mul, lN_mul]
  have z0 : (0 : Int64).toInt = 0 := rfl
  have hti := y_toInt (x := a + b) (y := c) (z := d) (by omega) (by omega) (by omega)
  unfold q_cmp y_cm
  rw [e1, e2, lN_add]
  by_cases h : c + d ≤ a + b
  · have e3 : lN (a + b) - lN c - lN d = lN (a + b - (c + d)) := by rw [lN_sub (by omega), lN_sub (by omega), Nat.sub_sub]
    have e4 : (0 : Int64) ≤ lN (a + b - (c + d)) := by
      rw [Int64.le_iff_toInt_le, z0, pk_lT (by omega)]
      omega
    rw [e3, if_pos e4, if_pos h, y_sg4 (by omega) h3 h4]
  · have e4 : ¬ (0 : Int64) ≤ lN (a + b) - lN c - lN d := by
      rw [Int64.le_iff_toInt_le, z0, hti]
      omega
    have e5 : -(lN (a + b) - lN c - lN d) = lN (c + d - (a + b)) := by
      apply Int64.toInt_inj.mp
      rw [Int64.toInt_neg, hti, pk_lT (by omega), Int.bmod_def]
      omega
    rw [if_neg e4, if_neg h, e5, y_sg4 (by omega) h4 h3]
def q_lw (x : qW) : Prop := q_len x.2.2.2.1 x.2.2.2.2.1
def q_A (x : qW) : Nat := nv x.2.2.2.1
def q_B (x : qW) : Nat := nv x.2.2.2.2.1
theorem q_lw_b {x : qW} (h : q_lw x) : q_A x + q_B x ≤ 28800 ∧ 4 * q_A x * q_B x ≤ 2560000 ∧ x.2.2.2.1 = nI (q_A x) ∧ x.2.2.2.2.1 = nI (q_B x) := by
  unfold q_A q_B
  rcases h with ⟨h1, h2⟩ | ⟨h1, h2⟩
  · have e0 : nv x.2.2.2.2.1 = 0 := by rw [h2]; decide
    have := h1.2
    rw [e0]
    exact ⟨by omega, by omega, h1.1, h2⟩
  · have a1 := h1.2
    have a2 := h2.2
    have a3 : nv x.2.2.2.1 * nv x.2.2.2.2.1 ≤ 800 * 800 := Nat.mul_le_mul a1 a2
    refine ⟨by omega, ?_, h1.1, h2.1⟩
    rw [Nat.mul_assoc]
    omega
theorem q_cw {x y : qW} (hx : q_lw x) (hy : q_lw y) : q_cmpW x y = y_cm (q_A x + q_B x) (4 * q_A x * q_B x) (q_A y + q_B y) (4 * q_A y * q_B y) := by
  obtain ⟨x1, x2, x3, x4⟩ := q_lw_b hx
  obtain ⟨y1, y2, y3, y4⟩ := q_lw_b hy
  unfold q_cmpW
  rw [x3, x4, y3, y4, nI_l (by omega), nI_l (by omega), nI_l (by omega), nI_l (by omega)]
  exact y_cmp x1 y1 x2 y2
theorem q_cw_neg {x y : qW} (hx : q_lw x) (hy : q_lw y) : q_cmpW y x = - q_cmpW x y := by
  rw [q_cw hx hy, q_cw hy hx]
  exact y_cm_neg _ _ _ _
theorem q_cw_tri {x y : qW} (hx : q_lw x) (hy : q_lw y) : q_cmpW x y = nI 0 ∨ q_cmpW x y = nI 1 ∨ q_cmpW x y = -1 := by
  rw [q_cw hx hy]
  exact y_cm_tri _ _ _ _
theorem q_cw_tr {x y z : qW} (hx : q_lw x) (hy : q_lw y) (hz : q_lw z) (h1 : q_cmpW x y ≤ 0) (h2 : q_cmpW y z ≤ 0) : q_cmpW x z ≤ 0 := by
  rw [q_cw hx hy] at h1
  rw [q_cw hy hz] at h2
  rw [q_cw hx hz]
  exact y_cm_le.mpr (y_tr (y_cm_le.mp h1) (y_cm_le.mp h2))
/-- by lengths, then by kind, first, second -/
def q_ltM (x y : qW) : Bool := if q_cmpW x y = 0 then (if x.1 = y.1 then (if x.2.1 = y.2.1 then !decide (y.2.2.1 ≤ x.2.2.1) else !decide (y.2.1 ≤ x.2.1)) else !decide (y.1 ≤ x.1)) else !decide (0 ≤ q_cmpW x y)
theorem q_ltM_iff {x y : qW} (hx : q_lw x) (hy : q_lw y) : q_ltM x y = true ↔ (q_cmpW x y = -1 ∨ (q_cmpW x y = nI 0 ∧ q_lx x y)) := by
  unfold q_ltM q_lx
  rcases q_cw_tri hx hy with h | h | h
  · have hn : ¬ q_cmpW x y = -1 := by rw [h]; decide
    rw [if_pos (by rw [h]; rfl)]
    by_cases h1 : x.1 = y.1
    · have h1b : ¬ x.1 < y.1 := by rw [h1]; exact Int32.lt_irrefl
      rw [if_pos h1]
      by_cases h2 : x.2.1 = y.2.1
      · have h2b : ¬ x.2.1 < y.2.1 := by rw [h2]; exact Int32.lt_irrefl
        rw [if_pos h2, Bool.not_eq_true', decide_eq_false_iff_not, Int32.not_le]
        exact ⟨fun g => Or.inr ⟨h, Or.inr ⟨h1, Or.inr ⟨h2, g⟩⟩⟩, fun g => by
          rcases g with g | ⟨_, g | ⟨_, g | ⟨_, g⟩⟩⟩
          · exact absurd g hn
          · exact absurd g h1b
          · exact absurd g h2b
          · exact g⟩
      · rw [if_neg h2, Bool.not_eq_true', decide_eq_false_iff_not, Int32.not_le]
        exact ⟨fun g => Or.inr ⟨h, Or.inr ⟨h1, Or.inl g⟩⟩, fun g => by
          rcases g with g | ⟨_, g | ⟨_, g | ⟨g, _⟩⟩⟩
          · exact absurd g hn
          · exact absurd g h1b
          · exact g
          · exact absurd g h2⟩
    · rw [if_neg h1, Bool.not_eq_true', decide_eq_false_iff_not, Int32.not_le]
      exact ⟨fun g => Or.inr ⟨h, Or.inl g⟩, fun g => by
        rcases g with g | ⟨_, g | ⟨g, _⟩⟩
        · exact absurd g hn
        · exact g
        · exact absurd g h1⟩
  · rw [h, if_neg (by decide)]
    exact ⟨fun g => absurd g (by decide), fun g => by
      rcases g with g | ⟨g, _⟩
      · exact absurd g (by decide)
      · exact absurd g (by decide)⟩
  · rw [h, if_neg (by decide)]
    exact ⟨fun _ => Or.inl rfl, fun _ => by decide⟩
theorem q_lx_tr {x y z : qW} (h1 : q_lx x y) (h2 : q_lx y z) : q_lx x z := by
  unfold q_lx at h1 h2 ⊢
  simp only [Int32.lt_iff_toInt_lt, ← Int32.toInt_inj] at h1 h2 ⊢
  omega
theorem q_lx_ir {x : qW} : ¬ q_lx x x := by
  unfold q_lx
  simp only [Int32.lt_iff_toInt_lt]
  omega
theorem q_ltM_tr {x y z : qW} (hx : q_lw x) (hy : q_lw y) (hz : q_lw z) (h1 : q_ltM x y = true) (h2 : q_ltM y z = true) : q_ltM x z = true := by
  rw [q_ltM_iff hx hy] at h1
  rw [q_ltM_iff hy hz] at h2
  rw [q_ltM_iff hx hz]
  have l1 : q_cmpW x y ≤ 0 := by rcases h1 with h | ⟨h, _⟩ <;> rw [h] <;> decide
  have l2 : q_cmpW y z ≤ 0 := by rcases h2 with h | ⟨h, _⟩ <;> rw [h] <;> decide
  have l3 := q_cw_tr hx hy hz l1 l2
  rcases q_cw_tri hx hz with h | h | h
  · right
    have l4 : q_cmpW z x ≤ 0 := by rw [q_cw_neg hx hz, h]; decide
    have l5 := q_cw_tr hy hz hx l2 l4
    have l6 := q_cw_tr hz hx hy l4 l1
    rw [q_cw_neg hx hy] at l5
    rw [q_cw_neg hy hz] at l6
    refine ⟨h, ?_⟩
    rcases h1 with g1 | ⟨g1, g2⟩
    · rw [g1] at l5; exact absurd l5 (by decide)
    · rcases h2 with f1 | ⟨f1, f2⟩
      · rw [f1] at l6; exact absurd l6 (by decide)
      · exact q_lx_tr g2 f2
  · rw [h] at l3; exact absurd l3 (by decide)
  · exact Or.inl h
theorem q_ltM_tot {x y : qW} (hx : q_lw x) (hy : q_lw y) (hd : q_lx x y ∨ q_lx y x) (h : ¬ q_ltM x y = true) : q_ltM y x = true := by
  rw [q_ltM_iff hx hy] at h
  rw [q_ltM_iff hy hx, q_cw_neg hx hy]
  rcases q_cw_tri hx hy with g | g | g
  · right
    rw [g]
    refine ⟨by decide, ?_⟩
    rcases hd with hd | hd
    · exact absurd (Or.inr ⟨g, hd⟩) h
    · exact hd
  · left
    rw [g]
    decide
  · exact absurd (Or.inl g) h
theorem q_ltM_as {x y : qW} (hx : q_lw x) (hy : q_lw y) (h1 : q_ltM x y = true) (h2 : q_ltM y x = true) : x = y := by
  have h3 := q_ltM_tr hx hy hx h1 h2
  rw [q_ltM_iff hx hx] at h3
  rcases h3 with h | ⟨_, h⟩
  · have h4 := q_cw_neg hx hx
    rw [h] at h4
    exact absurd h4 (by decide)
  · exact absurd h q_lx_ir
/-! insertion -/
theorem q_ins_perm {lt : qW → qW → Bool} {q : qW} : ∀ m, (q_ins lt q m).Perm (q :: m) := by
  intro m
  induction m with
  | nil => exact List.Perm.refl _
  | cons x xs ih =>
    unfold q_ins
    split
    · exact (List.Perm.cons x ih).trans (List.Perm.swap q x xs)
    · exact List.Perm.refl _
theorem q_isr_perm {lt : qW → qW → Bool} : ∀ l m : List qW, (l.foldl (fun m q => q_ins lt q m) m).Perm (l ++ m) := by
  intro l
  induction l with
  | nil => intro m; exact List.Perm.refl _
  | cons x xs ih =>
    intro m
    refine (ih (q_ins lt x m)).trans ?_
    refine (List.Perm.append_left xs (q_ins_perm m)).trans ?_
    exact List.perm_middle
theorem q_ins_pw {q : qW} (hq : q_lw q) : ∀ m : List qW, (∀ x, x ∈ m → q_lw x ∧ (q_lx q x ∨ q_lx x q)) → m.Pairwise (fun x y => q_ltM y x = true) → (q_ins q_ltM q m).Pairwise (fun x y => q_ltM y x = true) := by
  intro m
  induction m with
  | nil => intro _ _; exact List.pairwise_singleton _ _
  | cons x xs ih =>
    intro hm hp
    rw [List.pairwise_cons] at hp
    have hx := hm x List.mem_cons_self
    unfold q_ins
    split
    · rename_i hlt
      rw [List.pairwise_cons]
      refine ⟨fun y hy => ?_, ih (fun y hy => hm y (List.mem_cons_of_mem _ hy)) hp.2⟩
      have hy2 := (q_ins_perm (lt := q_ltM) (q := q) xs).subset hy
      rw [List.mem_cons] at hy2
      rcases hy2 with hy2 | hy2
      · rw [hy2]; exact hlt
      · exact hp.1 y hy2
    · rename_i hlt
      have h1 := q_ltM_tot hq hx.1 hx.2 hlt
      rw [List.pairwise_cons]
      refine ⟨fun y hy => ?_, List.pairwise_cons.mpr hp⟩
      rw [List.mem_cons] at hy
      rcases hy with hy | hy
      · rw [hy]; exact h1
      · exact q_ltM_tr (hm y (List.mem_cons_of_mem _ hy)).1 hx.1 hq (hp.1 y hy) h1
theorem q_isr_pw : ∀ l m : List qW, (∀ x, x ∈ l ++ m → q_lw x) → (l ++ m).Pairwise (fun x y => q_lx x y ∨ q_lx y x) → m.Pairwise (fun x y => q_ltM y x = true) → (l.foldl (fun m q => q_ins q_ltM q m) m).Pairwise (fun x y => q_ltM y x = true) := by
  intro l
  induction l with
  | nil => intro m _ _ h; exact h
  | cons x xs ih =>
    intro m h1 h2 h3
    have h2' : (x :: (xs ++ m)).Pairwise (fun x y => q_lx x y ∨ q_lx y x) := h2
    rw [List.pairwise_cons] at h2'
    have hpm : (xs ++ q_ins q_ltM x m).Perm (x :: (xs ++ m)) := (List.Perm.append_left xs (q_ins_perm m)).trans List.perm_middle
    refine ih (q_ins q_ltM x m) (fun y hy => h1 y ?_) ?_ ?_
    · exact hpm.subset hy
    · exact (hpm.pairwise_iff (fun h => h.symm)).mpr (List.pairwise_cons.mpr h2')
    · exact q_ins_pw (h1 x List.mem_cons_self) m (fun y hy => ⟨h1 y (List.mem_cons_of_mem _ (List.mem_append_right xs hy)), h2'.1 y (List.mem_append_right xs hy)⟩) h3
theorem q_isr_C : ∀ l m : List qW, (∀ x, x ∈ l ++ m → q_lw x) → (∀ x, x ∈ m → ∀ y, y ∈ l → q_lx x y) → l.Pairwise q_lx → l.foldl (fun m q => q_ins q_ltC q m) m = l.foldl (fun m q => q_ins q_ltM q m) m := by
  intro l
  induction l with
  | nil => intro m _ _ _; rfl
  | cons x xs ih =>
    intro m h1 h2 h3
    rw [List.pairwise_cons] at h3
    have hins : ∀ m2 : List qW, (∀ y, y ∈ m2 → q_lw y ∧ q_lx y x) → q_ins q_ltC x m2 = q_ins q_ltM x m2 := by
      intro m2
      induction m2 with
      | nil => intro _; rfl
      | cons y ys ihy =>
        intro hm
        have hy := hm y List.mem_cons_self
        have hxw := h1 x List.mem_cons_self
        have he : q_ltC x y = q_ltM x y := by
          cases hM : q_ltM x y with
          | true =>
            rw [q_ltM_iff hxw hy.1] at hM
            rcases hM with g | ⟨_, g⟩
            · unfold q_ltC
              rw [q_cw_neg hxw hy.1, g]; decide
            · exact absurd (q_lx_tr g hy.2) q_lx_ir
          | false =>
            have hM2 : ¬ (q_cmpW x y = -1 ∨ (q_cmpW x y = nI 0 ∧ q_lx x y)) := fun e => by
              rw [← q_ltM_iff hxw hy.1, hM] at e; cases e
            unfold q_ltC
            rw [q_cw_neg hxw hy.1]
            rcases q_cw_tri hxw hy.1 with g | g | g
            · rw [g]; decide
            · rw [g]; decide
            · exact absurd (Or.inl g) hM2
        unfold q_ins
        rw [he, ihy (fun z hz => hm z (List.mem_cons_of_mem _ hz))]
    show List.foldl (fun m q => q_ins q_ltC q m) (q_ins q_ltC x m) xs = List.foldl (fun m q => q_ins q_ltM q m) (q_ins q_ltM x m) xs
    rw [hins m (fun y hy => ⟨h1 y (List.mem_cons_of_mem _ (List.mem_append_right xs hy)), h2 y hy x List.mem_cons_self⟩)]
    refine ih _ (fun y hy => ?_) (fun y hy z hz => ?_) h3.2
    · have hy2 := ((List.Perm.append_left xs (q_ins_perm (lt := q_ltM) m)).trans List.perm_middle).subset hy
      exact h1 y hy2
    · have hy2 := (q_ins_perm (lt := q_ltM) m).subset hy
      rw [List.mem_cons] at hy2
      rcases hy2 with hy2 | hy2
      · rw [hy2]; exact h3.1 z hz
      · exact h2 y hy2 z (List.mem_cons_of_mem _ hz)
/-- both sort to the same -/
theorem q_sorts {l1 l2 : List qW} (hp : l1.Perm l2) (hw : ∀ x, x ∈ l2 → q_lw x) (hl : l2.Pairwise q_lx) : q_isort q_ltM l1 = q_isort q_ltC l2 := by
  unfold q_isort q_isr
  have hD2 : l2.Pairwise (fun x y => q_lx x y ∨ q_lx y x) := hl.imp (fun h => Or.inl h)
  have hD1 : l1.Pairwise (fun x y => q_lx x y ∨ q_lx y x) := (hp.pairwise_iff (fun h => h.symm)).mpr hD2
  have hw1 : ∀ x, x ∈ l1 → q_lw x := fun x hx => hw x (hp.subset hx)
  rw [q_isr_C l2 [] (fun x hx => hw x (by rw [List.append_nil] at hx; exact hx)) (fun x hx => absurd hx List.not_mem_nil) hl]
  have p1 := q_isr_perm (lt := q_ltM) l1 []
  have p2 := q_isr_perm (lt := q_ltM) l2 []
  rw [List.append_nil] at p1 p2
  have s1 := q_isr_pw l1 [] (fun x hx => hw1 x (by rw [List.append_nil] at hx; exact hx)) (by rw [List.append_nil]; exact hD1) List.Pairwise.nil
  have s2 := q_isr_pw l2 [] (fun x hx => hw x (by rw [List.append_nil] at hx; exact hx)) (by rw [List.append_nil]; exact hD2) List.Pairwise.nil
  congr 1
  refine List.Perm.eq_of_pairwise (le := fun x y => q_ltM y x = true) (fun a b ha hb h1 h2 => ?_) s1 s2 (p1.trans (hp.trans p2.symm))
  exact q_ltM_as (hw1 a (p1.subset ha)) (hw b (p2.subset hb)) h2 h1
