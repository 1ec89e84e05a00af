/-! the ways hang on few numbers of the town -/
def q_ag (T S : Nat → Int32) : Prop := T 0 = S 0 ∧ T 4 = S 4 ∧ T 5 = S 5 ∧ T 11 = S 11 ∧ T 12 = S 12 ∧ (∀ zk, zk < 5 → T (18 + zk) = S (18 + zk) ∧ T (23 + zk) = S (23 + zk)) ∧ ∀ zk, zk < 84 → T (30 + zk) = S (30 + zk)
section Cong
variable {T S : Nat → Int32} {fx fy pw tx ty : Int32} {zw zv : Nat}
theorem cg_w (h : q_ag T S) (hw : zw < 12) {zk : Nat} (hk : zk < 7) : q_w T zw zk = q_w S zw zk := by
  unfold q_w
  have h1 := h.2.2.2.2.2.2 (7 * zw + zk) (by omega)
  rw [Nat.add_assoc]
  exact h1
theorem cg_there (h : q_ag T S) {za zb : Int32} : q_there T za zb = q_there S za zb := by
  unfold q_there q_til
  rw [h.2.1, h.2.2.1]
theorem cg_see (h : q_ag T S) (hw : zw < 12) : q_seeW T zw = q_seeW S zw := by
  unfold q_seeW
  rw [cg_w h hw (by decide), cg_w h hw (by decide), cg_there h, h.1]
theorem cg_up (h : q_ag T S) (hw : zw < 12) : q_up T zw = q_up S zw := by
  unfold q_up
  rw [cg_w h hw (show 0 < 7 by decide), cg_w h hw (show 2 < 7 by decide)]
theorem cg_side (h : q_ag T S) (hw : zw < 12) {zx zy zp : Int64} : q_side T zw zx zy zp = q_side S zw zx zy zp := by
  unfold q_side
  rw [cg_up h hw, cg_w h hw (show 0 < 7 by decide), cg_w h hw (show 1 < 7 by decide)]
theorem cg_over (h : q_ag T S) (hw : zw < 12) {za zb : qP} : q_over T zw za zb = q_over S zw za zb := by
  unfold q_over
  simp only [cg_side h hw]
theorem cg_hit (h : q_ag T S) (hw : zw < 12) {zo : qP} : q_hit T zw zo = q_hit S zw zo := by
  unfold q_hit
  rw [cg_up h hw, cg_w h hw (show 0 < 7 by decide), cg_w h hw (show 1 < 7 by decide), cg_w h hw (show 2 < 7 by decide), cg_w h hw (show 3 < 7 by decide)]
theorem cg_meet (h : q_ag T S) (hw : zw < 12) {za zb : qP} : q_meet T zw za zb = q_meet S zw za zb := by
  unfold q_meet
  rw [cg_side h hw, cg_side h hw, cg_over h hw, cg_hit h hw]
theorem cg_thr (h : q_ag T S) (hw : zw < 12) (h4 : rg (q_w T zw 4) 4) : q_thr T zw = q_thr S zw ∧ q_bck T zw = q_bck S zw := by
  unfold q_thr q_bck
  rw [← cg_w h hw (show 4 < 7 by decide)]
  have h1 := h.2.2.2.2.2.1 (nv (q_w T zw 4)) (by have := h4.2; omega)
  exact ⟨h1.2, h1.1⟩
theorem cg_leg1 (h : q_ag T S) (hw : zw < 12) (h4 : rg (q_w T zw 4) 4) {za zb : qP} {zs : Int64 × Bool} : q_leg1 T za zb zw zs = q_leg1 S za zb zw zs := by
  have e1 := cg_see h hw
  have e2 := cg_meet h hw (za := za) (zb := zb)
  have e3 := (cg_thr h hw h4).1
  unfold q_leg1
  generalize q_seeW T zw = zc at e1
  generalize q_meet T zw za zb = zd at e2
  generalize q_thr T zw = zt at e3
  subst e1
  subst e2
  subst e3
  rfl
theorem cg_fold (h : q_ag T S) {zz : Nat} (hz : zz ≤ 12) (h4 : ∀ zk, zk < zz → rg (q_w T zk 4) 4) {za zb : qP} {zs : Int64 × Bool} : ∀ zm, zm ≤ zz → q_fold (q_leg1 T za zb) zm zs = q_fold (q_leg1 S za zb) zm zs := by
  intro zm
  induction zm with
  | zero => intro _; show zs = zs; rfl
  | succ zm ih =>
    intro hm1
    have hc := cg_leg1 (zw := zm) (za := za) (zb := zb) (zs := q_fold (q_leg1 S za zb) zm zs) h (by omega) (h4 zm (by omega))
    have hi := ih (by omega)
    show q_leg1 T za zb zm (q_fold (q_leg1 T za zb) zm zs) = q_leg1 S za zb zm (q_fold (q_leg1 S za zb) zm zs)
    rw [hi]
    exact hc
theorem cg_leg (h : q_ag T S) (hwf : q_wf4 T) {za zb : qP} {zs : Int64 × Bool} : q_leg T za zb zs = q_leg S za zb zs := by
  have h2 := cg_fold (za := za) (zb := zb) (zs := zs) h hwf.1.2 hwf.2 (nv (T 0)) (Nat.le_refl _)
  have h3 : q_leg S za zb zs = q_fold (q_leg1 S za zb) (nv (T 0)) zs := by
    unfold q_leg
    rw [h.1]
  rw [h3]
  exact h2
theorem cg_mx (h : q_ag T S) (hw : zw < 12) {zx : Int64} : q_mx T zw zx = q_mx S zw zx := by
  unfold q_mx
  rw [cg_up h hw, cg_w h hw (show 0 < 7 by decide)]
theorem cg_my (h : q_ag T S) (hw : zw < 12) {zx : Int64} : q_my T zw zx = q_my S zw zx := by
  unfold q_my
  rw [cg_up h hw, cg_w h hw (show 1 < 7 by decide)]
theorem cg_M (h : q_ag T S) (hwf : q_wf4 T) (hw : zw < nv (T 0)) : q_M T fx fy pw tx ty zw = q_M S fx fy pw tx ty zw := by
  have h12 := hwf.1.2
  have hw2 : zw < 12 := by omega
  unfold q_M
  simp only [cg_side h hw2, cg_mx h hw2, cg_my h hw2, cg_over h hw2, cg_hit h hw2, cg_leg h hwf, (cg_thr h hw2 (hwf.2 zw hw)).2]
theorem cg_P (h : q_ag T S) (hwf : q_wf4 T) (hw : zw < nv (T 0)) (hv : zv < nv (T 0)) : q_P T fx fy pw tx ty zw zv = q_P S fx fy pw tx ty zw zv := by
  have h12 := hwf.1.2
  have hw2 : zw < 12 := by omega
  have hv2 : zv < 12 := by omega
  unfold q_P
  simp only [cg_side h hw2, cg_side h hv2, cg_mx h hw2, cg_mx h hv2, cg_my h hw2, cg_my h hv2, cg_over h hw2, cg_over h hv2, cg_hit h hw2, cg_hit h hv2, cg_leg h hwf, (cg_thr h hw2 (hwf.2 zw hw)).2, (cg_thr h hv2 (hwf.2 zv hv)).2]
theorem cg_ea (h : q_ag T S) (hw : zw < 12) {zx zy : Int32} : q_ea T zx zy zw = q_ea S zx zy zw := by
  unfold q_ea
  have hm : ∀ zm, zm ≤ 12 → q_fold (fun v s => s || q_isE T zx zy v) zm false = q_fold (fun v s => s || q_isE S zx zy v) zm false := by
    intro zm
    induction zm with
    | zero => intro _; rfl
    | succ zm ih =>
      intro hm1
      show (q_fold (fun v s => s || q_isE T zx zy v) zm false || q_isE T zx zy zm) = (q_fold (fun v s => s || q_isE S zx zy v) zm false || q_isE S zx zy zm)
      rw [ih (by omega)]
      have hw3 : zm < 12 := by omega
      unfold q_isE
      rw [cg_see h hw3, cg_w h hw3 (show 0 < 7 by decide), cg_w h hw3 (show 1 < 7 by decide), cg_w h hw3 (show 2 < 7 by decide), cg_w h hw3 (show 3 < 7 by decide)]
  exact hm zw (by omega)
theorem cg_C (h : q_ag T S) (hwf : q_wf4 T) (hw : zw < 12) {ze : Nat} (he : ze < 2) : q_C T fx fy pw tx ty zw ze = q_C S fx fy pw tx ty zw ze := by
  unfold q_C
  simp only [cg_w h hw (show 2 * ze < 7 by omega), cg_w h hw (show 2 * ze + 1 < 7 by omega), cg_ea h hw, cg_leg h hwf, h.2.2.2.2.1]
theorem q_cat_ext2 {f g : Nat → List qW} {zm : Nat} (h1 : ∀ zk, zk < zm → f zk = g zk) : q_cat f zm = q_cat g zm := by
  induction zm with
  | zero => rfl
  | succ zm ih => show q_cat f zm ++ f zm = q_cat g zm ++ g zm; rw [ih (fun zk hk => h1 zk (by omega)), h1 zm (by omega)]
theorem cg_all (h : q_ag T S) (hwf : q_wf4 T) : q_all T fx fy pw tx ty = q_all S fx fy pw tx ty := by
  have h12 := hwf.1.2
  have hsg : q_sg T fx fy pw tx ty = q_sg S fx fy pw tx ty := by unfold q_sg; rw [cg_leg h hwf]
  have hS : q_S T fx fy pw tx ty = q_S S fx fy pw tx ty := by unfold q_S; rw [hsg]
  have hPs : ∀ zk, zk < nv (T 0) → q_Ps T fx fy pw tx ty zk = q_Ps S fx fy pw tx ty zk := by
    intro zk hk
    unfold q_Ps
    rw [← h.2.2.2.1, ← h.1, q_cat_ext2 (f := q_P1 T fx fy pw tx ty zk) (g := q_P1 S fx fy pw tx ty zk) (fun zj hj => by
      unfold q_P1
      rw [cg_see h (by omega), cg_P h hwf hk hj])]
  have hMP : q_cat (q_MPs T fx fy pw tx ty) (nv (T 0)) = q_cat (q_MPs S fx fy pw tx ty) (nv (T 0)) := q_cat_ext2 (fun zk hk => by
    unfold q_MPs
    rw [cg_see h (by omega), cg_M h hwf hk, hPs zk hk])
  have hC : q_cat (q_Cs T fx fy pw tx ty) (nv (T 0)) = q_cat (q_Cs S fx fy pw tx ty) (nv (T 0)) := q_cat_ext2 (fun zk hk => by
    unfold q_Cs
    rw [cg_see h (by omega), cg_C h hwf (by omega) (by decide), cg_C h hwf (by omega) (by decide)])
  unfold q_all
  rw [hS, hsg, hMP, hC, ← h.2.2.2.1, ← h.2.2.2.2.1, ← h.1]
end Cong
