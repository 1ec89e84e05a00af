/-! the class: round corners -/
def q_dn (a b : Int32) : Nat := (nv a - nv b) * (nv a - nv b) + (nv b - nv a) * (nv b - nv a)
theorem q_dn_sym {za zb : Int32} : q_dn za zb = q_dn zb za := Nat.add_comm _ _
theorem q_dn_0 {za zb : Int32} (h1 : rg za 20) (h2 : rg zb 20) : q_dn za zb = 0 ↔ za = zb := by
  unfold q_dn
  constructor
  · intro h
    have a1 : (nv za - nv zb) * (nv za - nv zb) = 0 := by omega
    have a2 : (nv zb - nv za) * (nv zb - nv za) = 0 := by omega
    have b1 : nv za - nv zb = 0 := by
      rcases Nat.mul_eq_zero.mp a1 with h9 | h9 <;> exact h9
    have b2 : nv zb - nv za = 0 := by
      rcases Nat.mul_eq_zero.mp a2 with h9 | h9 <;> exact h9
    rw [h1.1, h2.1, show nv za = nv zb by omega]
  · intro h
    rw [h, Nat.sub_self]
theorem q_dn_b {za zb : Int32} (h1 : rg za 20) (h2 : rg zb 20) : q_dn za zb ≤ 400 := q_dsqb (nv za) (by have := h1.2; omega) (nv zb) (by have := h2.2; omega)
theorem q_sqE {x1 y1 x2 y2 : Int32} (h1 : rg x1 20) (h2 : rg y1 20) (h3 : rg x2 20) (h4 : rg y2 20) : q_sq (x1 - x2).toInt64 (y1 - y2).toInt64 = lN (q_dn x1 x2 + q_dn y1 y2) := by
  have e1 := q_dsq (nv x1) (by have := h1.2; omega) (nv x2) (by have := h3.2; omega)
  have e2 := q_dsq (nv y1) (by have := h2.2; omega) (nv y2) (by have := h4.2; omega)
  rw [← h1.1, ← h3.1] at e1
  rw [← h2.1, ← h4.1] at e2
  unfold q_sq
  rw [e1, e2, lN_add]
  rfl
theorem i64_inj {za zb : Int32} : za.toInt64 = zb.toInt64 ↔ za = zb := by
  constructor
  · intro h
    have h2 := congrArg Int64.toInt h
    rw [Int32.toInt_toInt64, Int32.toInt_toInt64] at h2
    exact Int32.toInt_inj.mp h2
  · intro h
    rw [h]
section Class10
variable {N : pN} {P : pR} {I : pI} {L : pL} {T : Nat → Int32} {fx fy pw tx ty : Int32}
theorem c_endsAt {zw zb : Nat} (hb : q_bar I T zw zb) (hr : (q_w T zw 0 = q_w T zw 2) ∨ (q_w T zw 1 = q_w T zw 3)) {zx zy : Int32} (h26 : c_pt L 26 = (zx.toInt64, zy.toInt64, 1)) : f_X0_endsAt I L zb 26 = some (bI ((decide (q_w T zw 0 = zx) && decide (q_w T zw 1 = zy)) || (decide (q_w T zw 2 = zx) && decide (q_w T zw 3 = zy)))) := by
  obtain ⟨b0, b3, b4, b5, b6, b7, b8⟩ := hb
  obtain ⟨u0, u1, u2⟩ := c_pt0 h26
  unfold f_X0_endsAt
  simp only [n_let]
  rw [b3, bI_if, bI_if, b4, b5, b6, u0, u1]
  unfold q_up
  by_cases h02 : q_w T zw 0 = q_w T zw 2
  · rw [decide_eq_true h02, ← h02]
    simp only [if_true]
    by_cases c1 : q_w T zw 0 = zx
    · rw [if_pos (i64_inj.mpr c1.symm), decide_eq_true c1]
      by_cases c2 : q_w T zw 1 = zy
      · rw [if_pos (i64_inj.mpr c2.symm), decide_eq_true c2]; rfl
      · rw [if_neg (fun h => c2 (i64_inj.mp h).symm), decide_eq_false c2]
        by_cases c3 : q_w T zw 3 = zy
        · rw [if_pos (i64_inj.mpr c3.symm), decide_eq_true c3]; rfl
        · rw [if_neg (fun h => c3 (i64_inj.mp h).symm), decide_eq_false c3]; rfl
    · rw [if_neg (fun h => c1 (i64_inj.mp h).symm), decide_eq_false c1]; rfl
  · rw [decide_eq_false h02]
    have h13 := hr.resolve_left h02
    rw [← h13]
    simp only [Bool.false_eq_true, if_false]
    by_cases c1 : q_w T zw 1 = zy
    · rw [if_pos (i64_inj.mpr c1.symm), decide_eq_true c1]
      by_cases c2 : q_w T zw 0 = zx
      · rw [if_pos (i64_inj.mpr c2.symm), decide_eq_true c2]; rfl
      · rw [if_neg (fun h => c2 (i64_inj.mp h).symm), decide_eq_false c2]
        by_cases c3 : q_w T zw 2 = zx
        · rw [if_pos (i64_inj.mpr c3.symm), decide_eq_true c3]; rfl
        · rw [if_neg (fun h => c3 (i64_inj.mp h).symm), decide_eq_false c3]; rfl
    · rw [if_neg (fun h => c1 (i64_inj.mp h).symm), decide_eq_false c1, Bool.and_false, Bool.and_false]; rfl
/-- walls that are seen are straight -/
def q_wfu (T : Nat → Int32) : Prop := ∀ zw, q_seeW T zw = true → (q_w T zw 0 = q_w T zw 2) ∨ (q_w T zw 1 = q_w T zw 3)
theorem c_earlier (hG : GW N P) (hB : q_bars I T) (hu : q_wfu T) {zw : Nat} (hw : zw < 12) {zx zy : Int32} (h26 : c_pt L 26 = (zx.toInt64, zy.toInt64, 1)) {zn : Nat} (hn : 12 < zn) : f_X2_isEarlierCorner zn I L P 21 (43 - zw) = some (bI (q_ea T zx zy zw)) := by
  have g5 : P 21 5 = some 26 := gp_21_5 hG
  have hloop := p_loopI (B := B_X2_isEarlierCorner_5 I L P 21 (43 - zw)) (zJ := fun zk (zs : Option Nat) => zs = c_at zk ∧ q_fold (fun v s => s || q_isE T zx zy v) zk false = false) (zE := fun zt => zt = bI (q_ea T zx zy zw)) (zm := zw) (zn := zn) (by omega) ?_ ?_ (P 21 0) ⟨gp_21_0 hG, rfl⟩
  · obtain ⟨zt, ht1, ht2⟩ := hloop
    unfold f_X2_isEarlierCorner
    rw [ht1, ht2]
  · rintro zk hk zs ⟨e1, e2⟩
    have ecs : zs = some (43 - zk) := by rw [e1]; unfold c_at; rw [if_pos (by omega)]
    subst ecs
    have hadr : ¬ 43 - zk = 43 - zw := by omega
    have hat : P (43 - zk) 1 = c_at (zk + 1) := c_next hG (by omega)
    have hBk := hB zk (by omega)
    have hfold : q_fold (fun v s => s || q_isE T zx zy v) (zk + 1) false = (q_fold (fun v s => s || q_isE T zx zy v) zk false || q_isE T zx zy zk) := rfl
    cases hsee : q_seeW T zk with
    | false =>
      left
      rw [hsee] at hBk
      have hst0 : I (43 - zk) 2 = 0 := by rw [hBk.1]; rfl
      refine ⟨c_at (zk + 1), ⟨rfl, ?_⟩, fun zrec => ?_⟩
      · rw [hfold, e2]
        unfold q_isE
        rw [hsee]
        rfl
      · unfold B_X2_isEarlierCorner_5 p_cs
        dsimp only
        rw [if_neg hadr, if_pos hst0, hat]
    | true =>
      rw [hsee] at hBk
      have hst1 : ¬ I (43 - zk) 2 = 0 := by rw [hBk.1]; decide
      have hen := c_endsAt (hBk.2 rfl).1 (hu zk hsee) h26
      have hisE : q_isE T zx zy zk = ((decide (q_w T zk 0 = zx) && decide (q_w T zk 1 = zy)) || (decide (q_w T zk 2 = zx) && decide (q_w T zk 3 = zy))) := by
        unfold q_isE
        rw [hsee]
        rfl
      rw [← hisE] at hen
      cases hq : q_isE T zx zy zk with
      | false =>
        left
        rw [hq] at hen
        refine ⟨c_at (zk + 1), ⟨rfl, by rw [hfold, e2, hq]; rfl⟩, fun zrec => ?_⟩
        unfold B_X2_isEarlierCorner_5 p_cs
        dsimp only
        rw [if_neg hadr, if_neg hst1, g5, Option.bind_some, hen, Option.bind_some, bI_iff, hat]
      | true =>
        right
        rw [hq] at hen
        have hmono : ∀ zj, q_fold (fun v s => s || q_isE T zx zy v) (zk + 1 + zj) false = true := by
          intro zj
          induction zj with
          | zero => show (_ || q_isE T zx zy zk) = true; rw [hq, Bool.or_true]
          | succ zj ih => show (q_fold (fun v s => s || q_isE T zx zy v) (zk + 1 + zj) false || q_isE T zx zy (zk + 1 + zj)) = true; rw [ih]; rfl
        have hz := hmono (zw - (zk + 1))
        rw [show zk + 1 + (zw - (zk + 1)) = zw by omega] at hz
        refine ⟨nI 1, ?_, fun zrec => ?_⟩
        · unfold q_ea; rw [hz]; rfl
        · unfold B_X2_isEarlierCorner_5 p_cs
          dsimp only
          rw [if_neg hadr, if_neg hst1, g5, Option.bind_some, hen, Option.bind_some, bI_ift]
  · rintro zs ⟨e1, e2⟩
    have ecs : zs = some (43 - zw) := by rw [e1]; unfold c_at; rw [if_pos hw]
    subst ecs
    refine ⟨nI 0, ?_, fun zrec => ?_⟩
    · unfold q_ea; rw [e2]; rfl
    · unfold B_X2_isEarlierCorner_5 p_cs
      dsimp only
      rw [if_pos rfl]
end Class10
