/-! what the ways look like -/
def q_tok (T : Nat → Int32) : Prop := q_wfs T ∧ (∀ zw, q_seeW T zw = true → rg (q_thr T zw) 100 ∧ rg (q_bck T zw) 100) ∧ rg (T 12) 100
def q_len (a b : Int32) : Prop := (rg a 28800 ∧ b = nI 0) ∨ (rg a 800 ∧ rg b 800)
def q_E (k : Nat) (f g : Int32) (zq : qW) : Prop := zq.1 = nI k ∧ zq.2.1 = f ∧ zq.2.2.1 = g ∧ q_len zq.2.2.2.1 zq.2.2.2.2.1 ∧ rg zq.2.2.2.2.2 9999000
section Shape
variable {T : Nat → Int32} {fx fy pw tx ty : Int32}
theorem q_fold_ok (hT : q_tok T) {za zb : qP} {zs : Int64 × Bool} (hs : q_ok zs) : ∀ zm, q_ok (q_fold (q_leg1 T za zb) zm zs) := by
  intro zm
  induction zm with
  | zero => exact hs
  | succ zm ih => exact q_leg1_ok ih (fun h => (hT.2.1 zm h).1)
theorem q_leg_ok (hT : q_tok T) {za zb : qP} {zs : Int64 × Bool} (hs : q_ok zs) : q_ok (q_leg T za zb zs) := q_fold_ok hT hs _
theorem q_beg_ok (hpw : rg pw 9999) {zd : Nat} (hd : zd < 2 ^ 31) : q_ok (q_beg pw (lN zd), false) := by
  have h := (c_spread (I := fun _ _ => nI (nv pw)) (zp := nv pw) rfl hpw.2 hd).2
  rw [← hpw.1] at h
  exact h
theorem q_weak_ok {zf : Int64} (hs : q_ok (zf, false)) {zt : Int32} (ht : rg zt 100) : q_ok (zf * zt.toInt64 / 100, false) := (c_weak hs rfl ht).2
theorem q_add_E {zk : Nat} {zf zg : Int32} {za zb : Int64} {zs : Int64 × Bool} (hs : q_ok zs) (hl : q_len za.toInt32 zb.toInt32) {zq : qW} (hq : zq ∈ q_add [] (nI zk) zf zg za zb zs) : q_E zk zf zg zq := by
  unfold q_add at hq
  by_cases hb : zs.2 = true
  · rw [if_pos hb] at hq; cases hq
  · rw [if_neg hb, List.nil_append, List.mem_singleton] at hq
    obtain ⟨zm, hm1, hm2⟩ := hs.resolve_left hb
    rw [hq]
    refine ⟨rfl, rfl, rfl, hl, ?_⟩
    dsimp only
    rw [hm2, lN_i]
    exact rg.of hm1 (by decide)
theorem q_len0 {zd : Nat} (hd : zd ≤ 28800) : q_len (lN zd).toInt32 (0 : Int64).toInt32 := by
  left
  rw [lN_i]
  exact ⟨rg.of hd (by decide), rfl⟩
theorem q_S_E (hT : q_tok T) (hf1 : rg fx 20) (hf2 : rg fy 20) (ht1 : rg tx 20) (ht2 : rg ty 20) (hpw : rg pw 9999) {zq : qW} (hq : zq ∈ q_S T fx fy pw tx ty) : q_E 0 (-1) (-1) zq := by
  have e1 := q_sqE hf1 hf2 ht1 ht2
  have b1 := q_dn_b hf1 ht1
  have b2 := q_dn_b hf2 ht2
  unfold q_S at hq
  rw [e1] at hq
  refine q_add_E (zk := 0) ?_ (q_len0 (by omega)) hq
  unfold q_sg
  rw [e1]
  exact q_leg_ok hT (q_beg_ok hpw (by omega))
theorem sb_d {x y : Int64} {m n : Int} (h1 : sb x m) (h2 : sb y n) (hm : m + n < 10000) : sb (x - y) (m + n) := (sb_sub h1 h2 (by omega)).2
theorem sb_mono {x : Int64} {m n : Int} (h1 : sb x m) (h : m ≤ n) : sb x n := ⟨by have := h1.1; omega, by have := h1.2; omega⟩
theorem q_M_E (hT : q_tok T) (hf1 : rg fx 20) (hf2 : rg fy 20) (ht1 : rg tx 20) (ht2 : rg ty 20) (hpw : rg pw 9999) {zw : Nat} (hw : q_seeW T zw = true) {zq : qW} (hq : zq ∈ q_M T fx fy pw tx ty zw) : q_E 1 (nI zw) (-1) zq := by
  have hr := hT.1.2 zw hw
  have a1 := sb_mx hr (sb_rg hf1 (by decide)).2 (by decide)
  have a2 := sb_my hr (sb_rg hf2 (by decide)).2 (by decide)
  obtain ⟨zd, hd1, hd2⟩ := q_sqS (m := 80) (sb_d a1 (sb_rg ht1 (by decide)).2 (by decide)) (sb_d a2 (sb_rg ht2 (by decide)).2 (by decide)) (by decide) (by decide)
  unfold q_M at hq
  split at hq
  · split at hq
    · rw [hd2] at hq
      refine q_add_E (zk := 1) ?_ (q_len0 (by omega)) hq
      exact q_leg_ok hT (q_leg_ok hT (q_weak_ok (q_beg_ok hpw (by omega)) (hT.2.1 zw hw).2))
    · cases hq
  · cases hq
theorem q_P_E (hT : q_tok T) (hf1 : rg fx 20) (hf2 : rg fy 20) (ht1 : rg tx 20) (ht2 : rg ty 20) (hpw : rg pw 9999) {zw zv : Nat} (hw : q_seeW T zw = true) (hv : q_seeW T zv = true) {zq : qW} (hq : zq ∈ q_P T fx fy pw tx ty zw zv) : q_E 2 (nI zw) (nI zv) zq := by
  have hr := hT.1.2 zw hw
  have hr2 := hT.1.2 zv hv
  have a1 := sb_mx hr2 (sb_mx hr (sb_rg hf1 (by decide)).2 (by decide)) (by decide)
  have a2 := sb_my hr2 (sb_my hr (sb_rg hf2 (by decide)).2 (by decide)) (by decide)
  obtain ⟨zd, hd1, hd2⟩ := q_sqS (m := 120) (sb_d a1 (sb_rg ht1 (by decide)).2 (by decide)) (sb_d a2 (sb_rg ht2 (by decide)).2 (by decide)) (by decide) (by decide)
  unfold q_P at hq
  split at hq
  · split at hq
    · split at hq
      · split at hq
        · rw [hd2] at hq
          refine q_add_E (zk := 2) ?_ (q_len0 (by omega)) hq
          exact q_leg_ok hT (q_leg_ok hT (q_leg_ok hT (q_weak_ok (q_weak_ok (q_beg_ok hpw (by omega)) (hT.2.1 zw hw).2) (hT.2.1 zv hv).2)))
        · cases hq
      · cases hq
    · cases hq
  · cases hq
theorem q_C_E (hT : q_tok T) (hf1 : rg fx 20) (hf2 : rg fy 20) (ht1 : rg tx 20) (ht2 : rg ty 20) (hpw : rg pw 9999) {zw ze : Nat} (hw : q_seeW T zw = true) (he : ze < 2) {zq : qW} (hq : zq ∈ q_C T fx fy pw tx ty zw ze) : q_E 3 (nI zw) (nI ze) zq := by
  have hr := hT.1.2 zw hw
  have r1 := hr (2 * ze) (by omega)
  have r2 := hr (2 * ze + 1) (by omega)
  have e1 := q_sqE r1 r2 hf1 hf2
  have e2 := q_sqE r1 r2 ht1 ht2
  have b1 := q_dn_b r1 hf1
  have b2 := q_dn_b r2 hf2
  have b3 := q_dn_b r1 ht1
  have b4 := q_dn_b r2 ht2
  unfold q_C at hq
  split at hq
  · cases hq
  · rw [e1, e2] at hq
    have h1 : q_dn (q_w T zw (2 * ze)) fx + q_dn (q_w T zw (2 * ze + 1)) fy ≤ 800 := by omega
    have h2 : q_dn (q_w T zw (2 * ze)) tx + q_dn (q_w T zw (2 * ze + 1)) ty ≤ 800 := by omega
    generalize q_dn (q_w T zw (2 * ze)) fx + q_dn (q_w T zw (2 * ze + 1)) fy = za at hq h1
    generalize q_dn (q_w T zw (2 * ze)) tx + q_dn (q_w T zw (2 * ze + 1)) ty = zb at hq h2
    have hab : za * zb ≤ 800 * 800 := Nat.mul_le_mul h1 h2
    have hrt : q_rt (za * zb) ≤ 640000 := by
      have h9 := (q_rt_is (za * zb)).1
      by_cases hz9 : q_rt (za * zb) = 0
      · omega
      · have h8 : q_rt (za * zb) * 1 ≤ q_rt (za * zb) * q_rt (za * zb) := Nat.mul_le_mul_left _ (by omega)
        omega
    have hsum64 : lN za + lN zb + 2 * q_r64 (lN za * lN zb) = lN (za + zb + 2 * q_rt (za * zb)) := by
      rw [lN_mul, q_r64_N (by omega)]
      show lN za + lN zb + lN 2 * lN (q_rt (za * zb)) = _
      rw [lN_mul, lN_add, lN_add]
    rw [hsum64] at hq
    refine q_add_E (zk := 3) ?_ ?_ hq
    · exact q_leg_ok hT (q_leg_ok hT (q_weak_ok (q_beg_ok hpw (by omega)) hT.2.2))
    · right
      rw [lN_i, lN_i]
      exact ⟨rg.of h1 (by decide), rg.of h2 (by decide)⟩
theorem q_cat_mem {f : Nat → List qW} {zq : qW} : ∀ zm, zq ∈ q_cat f zm → ∃ zj, zj < zm ∧ zq ∈ f zj := by
  intro zm
  induction zm with
  | zero => intro h; cases h
  | succ zm ih =>
    intro h
    have h : zq ∈ q_cat f zm ++ f zm := h
    rcases List.mem_append.mp h with g | g
    · obtain ⟨zj, h1, h2⟩ := ih g
      exact ⟨zj, by omega, h2⟩
    · exact ⟨zm, by omega, g⟩
/-- by kind, first, second -/
def q_lx (x y : qW) : Prop := x.1 < y.1 ∨ (x.1 = y.1 ∧ (x.2.1 < y.2.1 ∨ (x.2.1 = y.2.1 ∧ x.2.2.1 < y.2.2.1)))
theorem q_lx_k {zk zj : Nat} (h : zk < zj) (hj : zj < 100) {f1 g1 f2 g2 : Int32} {x y : qW} (h1 : q_E zk f1 g1 x) (h2 : q_E zj f2 g2 y) : q_lx x y := by
  left
  rw [h1.1, h2.1]
  exact nI_lt h (by omega)
theorem q_lx_f {zk zw zv : Nat} (h : zw < zv) (hj : zv < 100) {g1 g2 : Int32} {x y : qW} (h1 : q_E zk (nI zw) g1 x) (h2 : q_E zk (nI zv) g2 y) : q_lx x y := by
  right
  rw [h1.1, h2.1, h1.2.1, h2.2.1]
  exact ⟨rfl, Or.inl (nI_lt h (by omega))⟩
theorem q_lx_g {zk zw zv : Nat} (h : zw < zv) (hj : zv < 100) {f1 : Int32} {x y : qW} (h1 : q_E zk f1 (nI zw) x) (h2 : q_E zk f1 (nI zv) y) : q_lx x y := by
  right
  rw [h1.1, h2.1, h1.2.1, h2.2.1, h1.2.2.1, h2.2.2.1]
  exact ⟨rfl, Or.inr ⟨rfl, nI_lt h (by omega)⟩⟩
theorem q_cat_pw {f : Nat → List qW} {zR : qW → qW → Prop} : ∀ zm, (∀ zj, zj < zm → (f zj).Pairwise zR) → (∀ zi zj, zi < zj → zj < zm → ∀ x, x ∈ f zi → ∀ y, y ∈ f zj → zR x y) → (q_cat f zm).Pairwise zR := by
  intro zm
  induction zm with
  | zero => intro _ _; exact List.Pairwise.nil
  | succ zm ih =>
    intro h1 h2
    show (q_cat f zm ++ f zm).Pairwise zR
    refine List.pairwise_append.mpr ⟨ih (fun zj hj => h1 zj (by omega)) (fun zi zj a b => h2 zi zj a (by omega)), h1 zm (by omega), fun x hx y hy => ?_⟩
    obtain ⟨zi, hi, hx2⟩ := q_cat_mem zm hx
    exact h2 zi zm hi (by omega) x hx2 y hy
theorem q_pw1 {l : List qW} {zR : qW → qW → Prop} (h : l.length ≤ 1) : l.Pairwise zR := by
  match l, h with
  | [], _ => exact List.Pairwise.nil
  | [x], _ => exact List.pairwise_singleton zR x
theorem q_PP_mem {zw : Nat} {zq : qW} (h : zq ∈ q_PP T fx fy pw tx ty zw) : q_seeW T zw = true ∧ ∃ zv, zv < 12 ∧ q_seeW T zv = true ∧ zv ≠ zw ∧ zq ∈ q_P T fx fy pw tx ty zw zv := by
  unfold q_PP at h
  split at h
  · obtain ⟨zv, hv, h2⟩ := q_cat_mem 12 h
    unfold q_P1 at h2
    split at h2
    · cases h2
    · split at h2
      · exact ⟨by assumption, zv, hv, by assumption, by assumption, h2⟩
      · cases h2
  · cases h
theorem q_M1_mem {zw : Nat} {zq : qW} (h : zq ∈ q_M1 T fx fy pw tx ty zw) : q_seeW T zw = true ∧ zq ∈ q_M T fx fy pw tx ty zw := by
  unfold q_M1 at h
  split at h
  · exact ⟨by assumption, h⟩
  · cases h
theorem q_Cs_mem {zw : Nat} {zq : qW} (h : zq ∈ q_Cs T fx fy pw tx ty zw) : q_seeW T zw = true ∧ ∃ ze, ze < 2 ∧ zq ∈ q_C T fx fy pw tx ty zw ze := by
  unfold q_Cs at h
  split at h
  · rcases List.mem_append.mp h with g | g
    · exact ⟨by assumption, 0, by decide, g⟩
    · exact ⟨by assumption, 1, by decide, g⟩
  · cases h
theorem q_allC_mem (hT : q_tok T) (hf1 : rg fx 20) (hf2 : rg fy 20) (ht1 : rg tx 20) (ht2 : rg ty 20) (hpw : rg pw 9999) {zq : qW} (hq : zq ∈ q_allC T fx fy pw tx ty) : ∃ zk zf zg, q_E zk zf zg zq := by
  unfold q_allC at hq
  rcases List.mem_append.mp hq with g | g
  · rcases List.mem_append.mp g with g | g
    · rcases List.mem_append.mp g with g | g
      · exact ⟨_, _, _, q_S_E hT hf1 hf2 ht1 ht2 hpw g⟩
      · split at g
        · cases g
        · obtain ⟨zw, _, h2⟩ := q_cat_mem 12 g
          obtain ⟨h3, h4⟩ := q_M1_mem h2
          exact ⟨_, _, _, q_M_E hT hf1 hf2 ht1 ht2 hpw h3 h4⟩
    · split at g
      · cases g
      · obtain ⟨zw, _, h2⟩ := q_cat_mem 12 g
        obtain ⟨h3, zv, _, h4, _, h5⟩ := q_PP_mem h2
        exact ⟨_, _, _, q_P_E hT hf1 hf2 ht1 ht2 hpw h3 h4 h5⟩
  · split at g
    · cases g
    · obtain ⟨zw, _, h2⟩ := q_cat_mem 12 g
      obtain ⟨h3, ze, h4, h5⟩ := q_Cs_mem h2
      exact ⟨_, _, _, q_C_E hT hf1 hf2 ht1 ht2 hpw h3 h4 h5⟩
theorem q_ite_mem {c : Prop} [Decidable c] {l : List qW} {zq : qW} (h : zq ∈ (if c then ([] : List qW) else l)) : zq ∈ l := by
  split at h
  · cases h
  · exact h
theorem q_ite_pw {c : Prop} [Decidable c] {l : List qW} {zR : qW → qW → Prop} (h : l.Pairwise zR) : (if c then ([] : List qW) else l).Pairwise zR := by
  split
  · exact List.Pairwise.nil
  · exact h
theorem q_allC_pw (hT : q_tok T) (hf1 : rg fx 20) (hf2 : rg fy 20) (ht1 : rg tx 20) (ht2 : rg ty 20) (hpw : rg pw 9999) : (q_allC T fx fy pw tx ty).Pairwise q_lx := by
  have eS := fun zq (h : zq ∈ q_S T fx fy pw tx ty) => q_S_E hT hf1 hf2 ht1 ht2 hpw h
  have eM := fun zw zq (h : zq ∈ q_M1 T fx fy pw tx ty zw) => q_M_E hT hf1 hf2 ht1 ht2 hpw (q_M1_mem h).1 (q_M1_mem h).2
  have eP : ∀ zw zq, zq ∈ q_PP T fx fy pw tx ty zw → ∃ zv, zv < 12 ∧ q_E 2 (nI zw) (nI zv) zq := fun zw zq h => by
    obtain ⟨h3, zv, h6, h4, _, h5⟩ := q_PP_mem h
    exact ⟨zv, h6, q_P_E hT hf1 hf2 ht1 ht2 hpw h3 h4 h5⟩
  have eC : ∀ zw zq, zq ∈ q_Cs T fx fy pw tx ty zw → ∃ ze, ze < 2 ∧ q_E 3 (nI zw) (nI ze) zq := fun zw zq h => by
    obtain ⟨h3, ze, h4, h5⟩ := q_Cs_mem h
    exact ⟨ze, h4, q_C_E hT hf1 hf2 ht1 ht2 hpw h3 h4 h5⟩
  have pM : (q_cat (q_M1 T fx fy pw tx ty) 12).Pairwise q_lx := by
    refine q_cat_pw 12 (fun zj _ => q_pw1 ?_) (fun zi zj hi hj x hx y hy => q_lx_f hi (by omega) (eM zi x hx) (eM zj y hy))
    unfold q_M1
    split
    · exact q_M_len
    · exact Nat.zero_le _
  have pP : (q_cat (q_PP T fx fy pw tx ty) 12).Pairwise q_lx := by
    refine q_cat_pw 12 (fun zw _ => ?_) (fun zi zj hi hj x hx y hy => ?_)
    · unfold q_PP
      split
      · rename_i hw
        have eP1 : ∀ zv zq, zq ∈ q_P1 T fx fy pw tx ty zw zv → q_E 2 (nI zw) (nI zv) zq := fun zv zq h => by
          unfold q_P1 at h
          split at h
          · cases h
          · split at h
            · rename_i hv
              exact q_P_E hT hf1 hf2 ht1 ht2 hpw hw hv h
            · cases h
        refine q_cat_pw 12 (fun zv _ => q_pw1 ?_) (fun zi zj hi hj x hx y hy => q_lx_g hi (by omega) (eP1 zi x hx) (eP1 zj y hy))
        unfold q_P1
        split
        · exact Nat.zero_le _
        · split
          · exact q_P_len
          · exact Nat.zero_le _
      · exact List.Pairwise.nil
    · obtain ⟨za, _, h1⟩ := eP zi x hx
      obtain ⟨zb, _, h2⟩ := eP zj y hy
      exact q_lx_f hi (by omega) h1 h2
  have pC : (q_cat (q_Cs T fx fy pw tx ty) 12).Pairwise q_lx := by
    refine q_cat_pw 12 (fun zw _ => ?_) (fun zi zj hi hj x hx y hy => ?_)
    · unfold q_Cs
      split
      · rename_i hw
        refine List.pairwise_append.mpr ⟨q_pw1 q_C_len, q_pw1 q_C_len, fun x hx y hy => ?_⟩
        exact q_lx_g (show 0 < 1 by decide) (by decide) (q_C_E hT hf1 hf2 ht1 ht2 hpw hw (by decide) hx) (q_C_E hT hf1 hf2 ht1 ht2 hpw hw (by decide) hy)
      · exact List.Pairwise.nil
    · obtain ⟨za, _, h1⟩ := eC zi x hx
      obtain ⟨zb, _, h2⟩ := eC zj y hy
      exact q_lx_f hi (by omega) h1 h2
  unfold q_allC
  refine List.pairwise_append.mpr ⟨List.pairwise_append.mpr ⟨List.pairwise_append.mpr ⟨q_pw1 q_add_len, q_ite_pw pM, fun x hx y hy => ?_⟩, q_ite_pw pP, fun x hx y hy => ?_⟩, q_ite_pw pC, fun x hx y hy => ?_⟩
  · obtain ⟨zw, _, h2⟩ := q_cat_mem 12 (q_ite_mem hy)
    exact q_lx_k (show 0 < 1 by decide) (by decide) (eS x hx) (eM zw y h2)
  · obtain ⟨zw, _, h2⟩ := q_cat_mem 12 (q_ite_mem hy)
    obtain ⟨zv, _, h3⟩ := eP zw y h2
    rcases List.mem_append.mp hx with g | g
    · exact q_lx_k (show 0 < 2 by decide) (by decide) (eS x g) h3
    · obtain ⟨zu, _, h4⟩ := q_cat_mem 12 (q_ite_mem g)
      exact q_lx_k (show 1 < 2 by decide) (by decide) (eM zu x h4) h3
  · obtain ⟨zw, _, h2⟩ := q_cat_mem 12 (q_ite_mem hy)
    obtain ⟨ze, _, h3⟩ := eC zw y h2
    rcases List.mem_append.mp hx with g | g
    · rcases List.mem_append.mp g with g | g
      · exact q_lx_k (show 0 < 3 by decide) (by decide) (eS x g) h3
      · obtain ⟨zu, _, h4⟩ := q_cat_mem 12 (q_ite_mem g)
        exact q_lx_k (show 1 < 3 by decide) (by decide) (eM zu x h4) h3
    · obtain ⟨zu, _, h4⟩ := q_cat_mem 12 (q_ite_mem g)
      obtain ⟨zv, _, h5⟩ := eP zu x h4
      exact q_lx_k (show 2 < 3 by decide) (by decide) h5 h3
theorem q_allC_len : (q_allC T fx fy pw tx ty).length ≤ 169 := by
  have a1 : (q_S T fx fy pw tx ty).length ≤ 1 := q_add_len
  have a2 : (if T 11 ≤ 0 then ([] : List qW) else q_cat (q_M1 T fx fy pw tx ty) 12).length ≤ 12 := by
    split
    · exact Nat.zero_le _
    · exact q_cat_len (f := q_M1 T fx fy pw tx ty) (zc := 1) 12 (fun zv _ => by
        unfold q_M1
        split
        · exact q_M_len
        · exact Nat.zero_le _)
  have a3 : (if T 11 ≤ nI 1 then ([] : List qW) else q_cat (q_PP T fx fy pw tx ty) 12).length ≤ 132 := by
    split
    · exact Nat.zero_le _
    · exact q_cat_len (f := q_PP T fx fy pw tx ty) (zc := 11) 12 (fun zv hv => q_PP_len hv)
  have a4 : (if (q_sg T fx fy pw tx ty).2 = false ∨ T 12 ≤ 0 then ([] : List qW) else q_cat (q_Cs T fx fy pw tx ty) 12).length ≤ 24 := by
    split
    · exact Nat.zero_le _
    · exact q_cat_len (f := q_Cs T fx fy pw tx ty) (zc := 2) 12 (fun zv _ => q_Cs_len)
  unfold q_allC
  rw [List.length_append, List.length_append, List.length_append]
  omega
theorem q_sum_rg : ∀ l : List qW, l.length ≤ 169 → (∀ zq, zq ∈ l → rg zq.2.2.2.2.2 9999000) → rg (q_sum l) (l.length * 9999000) := by
  intro l
  induction l with
  | nil => intro _ _; exact rg.of (Nat.le_refl _) (by decide)
  | cons zq l ih =>
    intro h1 h2
    have h3 : l.length + 1 ≤ 169 := h1
    have hi := ih (by omega) (fun x hx => h2 x (List.mem_cons_of_mem _ hx))
    have hq := h2 zq List.mem_cons_self
    rw [q_sum_c, hq.1, hi.1, nI_add]
    have b1 := hq.2
    have b2 := hi.2
    show rg _ ((l.length + 1) * 9999000)
    exact rg.of (by omega) (by omega)
/-- a signal is a number, and small enough -/
theorem q_sig_rg (hT : q_tok T) (hf1 : rg fx 20) (hf2 : rg fy 20) (ht1 : rg tx 20) (ht2 : rg ty 20) (hpw : rg pw 9999) : rg (q_sig T fx fy pw tx ty) 1689831000 := by
  rw [← q_sig_C hT.1.1]
  have h := q_sum_rg (q_allC T fx fy pw tx ty) q_allC_len (fun zq hq => by
    obtain ⟨_, _, _, h⟩ := q_allC_mem hT hf1 hf2 ht1 ht2 hpw hq
    exact h.2.2.2.2)
  have h2 := q_allC_len (T := T) (fx := fx) (fy := fy) (pw := pw) (tx := tx) (ty := ty)
  exact ⟨h.1, by have := h.2; omega⟩
end Shape
theorem SR.tok {N : pN} {P : pR} {I : pI} (h : SR N P I 1 0) : q_tok (I 68) := by
  refine ⟨h.wfs, fun zw hw => ?_, (h.rg.2.1 1 (by decide)).2⟩
  have h4 := h.wf4.2 zw (q_see_lt hw)
  have h5 := h4.2
  have hu := h.ru.2 (nv (q_w (I 68) zw 4)) (by omega)
  exact ⟨hu.2.2.2, hu.2.2.1⟩
theorem q_sgS_rg {N : pN} {P : pR} {I : pI} (h : SR N P I 1 0) {zs zx zy : Nat} (hs : zs < nv (I 68 1)) (hx : zx ≤ 20) (hy : zy ≤ 20) : rg (q_sgS (I 68) zs zx zy) 1689831000 := by
  have hw := (h.sn hs).2.2
  exact q_sig_rg h.tok hw.1 hw.2.1 (rg.of hx (by decide)) (rg.of hy (by decide)) hw.2.2.2.1
