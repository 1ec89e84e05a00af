/-! both find the same ways, in another order -/
theorem q_cat_id {f : Nat → List qW} {zm : Nat} (hf1 : ∀ zw, zm ≤ zw → f zw = []) : ∀ zj, q_cat f (zm + zj) = q_cat f zm := by
  intro zj
  induction zj with
  | zero => rfl
  | succ zj ih => show q_cat f (zm + zj) ++ f (zm + zj) = _; rw [hf1 _ (by omega), List.append_nil, ih]
theorem q_cat_12 {f : Nat → List qW} {zm : Nat} (hm : zm ≤ 12) (hf1 : ∀ zw, zm ≤ zw → f zw = []) : q_cat f 12 = q_cat f zm := by
  have h1 := q_cat_id hf1 (12 - zm)
  rw [show zm + (12 - zm) = 12 by omega] at h1
  exact h1
theorem q_cat_ext {f g : Nat → List qW} (h1 : ∀ zw, f zw = g zw) : ∀ zm, q_cat f zm = q_cat g zm := by
  intro zm
  induction zm with
  | zero => rfl
  | succ zm ih => show q_cat f zm ++ f zm = q_cat g zm ++ g zm; rw [ih, h1]
theorem q_perm4 {zA zB zx zy : List qW} : ((zA ++ zB) ++ (zx ++ zy)).Perm ((zA ++ zx) ++ (zB ++ zy)) := by
  rw [List.append_assoc, List.append_assoc]
  refine List.Perm.append_left zA ?_
  rw [← List.append_assoc, ← List.append_assoc]
  exact List.Perm.append_right zy List.perm_append_comm
theorem q_cat_two {f g : Nat → List qW} : ∀ zm, (q_cat (fun w => f w ++ g w) zm).Perm (q_cat f zm ++ q_cat g zm) := by
  intro zm
  induction zm with
  | zero => exact List.Perm.refl _
  | succ zm ih =>
    show (q_cat (fun w => f w ++ g w) zm ++ (f zm ++ g zm)).Perm ((q_cat f zm ++ f zm) ++ (q_cat g zm ++ g zm))
    exact (List.Perm.append_right _ ih).trans q_perm4
section Perm
variable {T : Nat → Int32} {fx fy pw tx ty : Int32}
theorem q_see_n {zw : Nat} (hw : nv (T 0) ≤ zw) : q_seeW T zw = false := by
  unfold q_seeW
  rw [decide_eq_false (by omega)]
  rfl
theorem q_all_perm (h12 : nv (T 0) ≤ 12) : (q_all T fx fy pw tx ty).Perm (q_allC T fx fy pw tx ty) := by
  have c1 : q_cat (q_Cs T fx fy pw tx ty) 12 = q_cat (q_Cs T fx fy pw tx ty) (nv (T 0)) := q_cat_12 h12 (fun zw hw => by unfold q_Cs; rw [q_see_n hw, if_neg (by decide)])
  have c2 : q_cat (q_M1 T fx fy pw tx ty) 12 = q_cat (q_M1 T fx fy pw tx ty) (nv (T 0)) := q_cat_12 h12 (fun zw hw => by unfold q_M1; rw [q_see_n hw, if_neg (by decide)])
  have c3 : q_cat (q_PP T fx fy pw tx ty) 12 = q_cat (q_PP T fx fy pw tx ty) (nv (T 0)) := q_cat_12 h12 (fun zw hw => by unfold q_PP; rw [q_see_n hw, if_neg (by decide)])
  have c4 : ∀ zw, q_cat (q_P1 T fx fy pw tx ty zw) 12 = q_cat (q_P1 T fx fy pw tx ty zw) (nv (T 0)) := fun zw => q_cat_12 h12 (fun zv hv => by
    unfold q_P1
    rw [q_see_n hv, if_neg (show ¬ false = true by decide), ite_self])
  unfold q_all q_allC
  rw [c1, c2, c3]
  refine List.Perm.append_right _ ?_
  rw [List.append_assoc]
  refine List.Perm.append_left _ ?_
  by_cases hd0 : T 11 ≤ 0
  · have hd1 : T 11 ≤ nI 1 := by
      have h1 := Int32.le_iff_toInt_le.mp hd0
      rw [Int32.le_iff_toInt_le]
      have h2 : (0 : Int32).toInt = 0 := rfl
      have h3 : (nI 1).toInt = 1 := rfl
      omega
    rw [if_pos hd0, if_pos hd0, if_pos hd1]
    exact List.Perm.refl _
  · rw [if_neg hd0, if_neg hd0]
    by_cases hd1 : T 11 ≤ nI 1
    · rw [if_pos hd1, List.append_nil]
      rw [q_cat_ext (f := q_MPs T fx fy pw tx ty) (g := q_M1 T fx fy pw tx ty) (fun zw => by
        unfold q_MPs q_M1 q_Ps
        rw [if_pos hd1, List.append_nil])]
    · rw [if_neg hd1]
      rw [q_cat_ext (f := q_MPs T fx fy pw tx ty) (g := fun w => q_M1 T fx fy pw tx ty w ++ q_PP T fx fy pw tx ty w) (fun zw => by
        unfold q_MPs q_M1 q_Ps q_PP
        rw [if_neg hd1, c4]
        cases q_seeW T zw <;> rfl)]
      exact q_cat_two _
end Perm
theorem q_sum_s {l : List qW} : ∀ zs : Int32, l.foldl (fun s (q : qW) => s + q.2.2.2.2.2) zs = zs + q_sum l := by
  unfold q_sum
  induction l with
  | nil => intro zs; show zs = zs + nI 0; rw [show nI 0 = 0 from rfl, Int32.add_zero]
  | cons zq l ih =>
    intro zs
    show l.foldl _ (zs + zq.2.2.2.2.2) = zs + l.foldl _ (nI 0 + zq.2.2.2.2.2)
    rw [ih, ih (nI 0 + zq.2.2.2.2.2), show nI 0 = 0 from rfl, Int32.zero_add, Int32.add_assoc]
theorem q_sum_c {zq : qW} {l : List qW} : q_sum (zq :: l) = zq.2.2.2.2.2 + q_sum l := by
  show l.foldl _ (nI 0 + zq.2.2.2.2.2) = _
  rw [q_sum_s, show nI 0 = 0 from rfl, Int32.zero_add]
theorem q_sum_perm {l1 l2 : List qW} (h1 : l1.Perm l2) : q_sum l1 = q_sum l2 := by
  induction h1 with
  | nil => rfl
  | cons zq _ ih => rw [q_sum_c, q_sum_c, ih]
  | swap za zb l => rw [q_sum_c, q_sum_c, q_sum_c, q_sum_c, ← Int32.add_assoc, ← Int32.add_assoc, Int32.add_comm zb.2.2.2.2.2]
  | trans _ _ ih1 ih2 => rw [ih1, ih2]
/-- the signal -/
def q_sig (T : Nat → Int32) (fx fy pw tx ty : Int32) : Int32 := q_sum (q_all T fx fy pw tx ty)
theorem q_sig_C {T : Nat → Int32} {fx fy pw tx ty : Int32} (h12 : nv (T 0) ≤ 12) : q_sum (q_allC T fx fy pw tx ty) = q_sig T fx fy pw tx ty := (q_sum_perm (q_all_perm h12)).symm
