/-! the start: both objects are made -/
def N00 : pN := (0, fun _ => (0, 0))
def I00 : pI := fun _ _ => 0
def L00 : pL := fun _ _ => 0
def P00 : pR := fun _ _ => none
def w11 : pN × pI × pL × pR := p_nw N00 I00 L00 P00 (14, 0)
def st_made (n : Nat) (q1 q2 : pN × pI × pL × pR) : Prop := f_X11_init w11.1 w11.2.1 w11.2.2.1 w11.2.2.2 0 = some q1 ∧ q1.1.1 = 67 ∧ f_X12_init n (p_nw q1.1 q1.2.1 q1.2.2.1 q1.2.2.2 (15, 0)).1 (p_nw q1.1 q1.2.1 q1.2.2.1 q1.2.2.2 (15, 0)).2.1 (p_nw q1.1 q1.2.1 q1.2.2.1 q1.2.2.2 (15, 0)).2.2.1 (p_nw q1.1 q1.2.1 q1.2.2.1 q1.2.2.2 (15, 0)).2.2.2 67 = some q2
theorem st_wt0 : WT N00 P00 := fun a ha => absurd ha (Nat.not_lt_zero a)
theorem lw_new {G : pG} {nm : String} {n : Nat} {Iv : Nat → pN → pI → pL → pR → Prop} (hL : g_n G ≤ 3584) (hv : ∀ k N I L P, Iv k N I L P → WT N P ∧ p_tp N 0 14 ∧ p_tp N 67 15) (hm : ∀ k N I L P, Iv k N I L P → Iv (k + 1) N I L P) (h_feed : ∀ k, k < 512 → Sp_feed n (Iv k) (Iv (k + 1))) (h_end : ∀ k, k < 512 → Sp_end n (Iv k) (Iv (k + 1))) (h_town : ∀ k, k < 512 → Sp_town n (Iv k) (Iv (k + 1))) (h_law : ∀ k, k < 512 → Sp_law n (Iv k) (Iv (k + 1))) (h_fault : ∀ k, k < 512 → Sp_fault n (Iv k) (Iv (k + 1))) (h_day : ∀ k, k < 512 → Sp_day n (Iv k) (Iv (k + 1))) (h_view : ∀ k, k < 512 → Sp_view n (Iv k) (Iv (k + 1))) (h_pull : ∀ k, k < 512 → Sp_pull n (Iv k) (Iv (k + 1))) (h_stuff : ∀ k, k < 512 → Sp_stuff n (Iv k) (Iv (k + 1))) (h_set : ∀ k, k < 512 → Sp_set n (Iv k) (Iv (k + 1))) (h_wall : ∀ k, k < 512 → Sp_wall n (Iv k) (Iv (k + 1))) (h_sender : ∀ k, k < 512 → Sp_sender n (Iv k) (Iv (k + 1))) (h_sees : ∀ k, k < 512 → Sp_sees n (Iv k) (Iv (k + 1))) (h_ways : ∀ k, k < 512 → Sp_ways n (Iv k) (Iv (k + 1))) (h_way : ∀ k, k < 512 → Sp_way n (Iv k) (Iv (k + 1))) (h_compare : ∀ k, k < 512 → Sp_compare n (Iv k) (Iv (k + 1))) (h_signal : ∀ k, k < 512 → Sp_signal n (Iv k) (Iv (k + 1))) (h_heard : ∀ k, k < 512 → Sp_heard n (Iv k) (Iv (k + 1))) (h_best : ∀ k, k < 512 → Sp_best n (Iv k) (Iv (k + 1))) (h_step : ∀ k, k < 512 → Sp_step n (Iv k) (Iv (k + 1))) (h_unwalk : ∀ k, k < 512 → Sp_unwalk n (Iv k) (Iv (k + 1))) (h_served : ∀ k, k < 512 → Sp_served n (Iv k) (Iv (k + 1))) (h_walk : ∀ k, k < 512 → Sp_walk n (Iv k) (Iv (k + 1))) (h_cover : ∀ k, k < 512 → Sp_cover n (Iv k) (Iv (k + 1))) (h_serves : ∀ k, k < 512 → Sp_serves n (Iv k) (Iv (k + 1))) (h_clash : ∀ k, k < 512 → Sp_clash n (Iv k) (Iv (k + 1))) (h_colour : ∀ k, k < 512 → Sp_colour n (Iv k) (Iv (k + 1))) (h_span : ∀ k, k < 512 → Sp_span n (Iv k) (Iv (k + 1))) (h_places : ∀ k, k < 512 → Sp_places n (Iv k) (Iv (k + 1))) (h_place : ∀ k, k < 512 → Sp_place n (Iv k) (Iv (k + 1))) (h_echo : ∀ k, k < 512 → Sp_echo n (Iv k) (Iv (k + 1))) (h_why : ∀ k, k < 512 → Sp_why n (Iv k) (Iv (k + 1))) (h_breach : ∀ k, k < 512 → Sp_breach n (Iv k) (Iv (k + 1))) (h_count : ∀ k, k < 512 → Sp_count n (Iv k) (Iv (k + 1))) (h_image : ∀ k, k < 512 → Sp_image n (Iv k) (Iv (k + 1))) (h_again : ∀ k, k < 512 → Sp_again n (Iv k) (Iv (k + 1))) {q1 q2 : pN × pI × pL × pR} (hq : st_made n q1 q2) (hi0 : Iv 0 q2.1 q2.2.1 q2.2.2.1 q2.2.2.2) : SW G (mL nm) room_1 600000 7302250 0 0 lw_Qr 0 [(0, .ref 1000050)] [] N00 I00 L00 P00 := by
  obtain ⟨f1, f67, f2⟩ := hq
  refine s_new (pc := 0) (ci := 11) (q := (RX11, TX11, 8)) rfl kk_L_7 (by decide) (by decide) (by decide) dL_law_0 ?_
  refine a_nm (fun z1 ez1 => ?_)
  have ew1 : z1 = w11 := ez1
  rw [← ew1] at f1
  have hw1 : WT z1.1 z1.2.2.2 := p_nww (N := N00) (I := I00) (L := L00) (P := P00) (S := (14, 0)) ew1 st_wt0
  have ht1 : p_tp z1.1 0 14 := p_nws (N := N00) (I := I00) (L := L00) (P := P00) (S := (14, 0)) ew1
  refine s_dup (pc := 3) dL_law_3 rfl ?_
  refine x_callI (pc := 4) (a := 0) (d := 20) (mc' := 66) (ms' := 20241) dL_law_4 (c_X11_init (d := 20) (by decide) hw1 ht1 f1) mk_X11_init mi_X11_init rfl rfl ml_L_9 rfl rfl (Nat.le_of_ble_eq_true rfl) ht1.1 ⟨by decide, by decide⟩ ⟨by decide, by decide⟩ ?_
  have hg1 := g_X11_init hw1 ht1 f1
  refine s_astore_n (pc := 7) (lo' := [(1, .ref 0), (0, .ref 1000050)]) dL_law_7 rfl (Nat.le_of_ble_eq_true rfl) rfl ?_
  refine s_new (pc := 8) (ci := 12) (q := (RX12, TX12, 41)) rfl kk_L_10 (by decide) (by decide) (by omega) dL_law_8 ?_
  rw [f67]
  refine a_nm (fun z2 ez2 => ?_)
  have ew2 : z2 = p_nw q1.1 q1.2.1 q1.2.2.1 q1.2.2.2 (15, 0) := by rw [ez2, ← f67]; rfl
  rw [← ew2] at f2
  have hw2 : WT z2.1 z2.2.2.2 := p_nww ew2 hg1.1
  have ht2 : p_tp z2.1 67 15 := by
    have h := p_nws ew2
    rw [f67] at h
    exact h
  refine s_dup (pc := 11) dL_law_11 rfl ?_
  refine x_callI (pc := 12) (a := 67) (d := 20) (mc' := 18) (ms' := 9518) dL_law_12 (c_X12_init (d := 20) (by decide) hw2 ht2 f2) mk_X12_init mi_X12_init rfl rfl ml_L_12 rfl rfl (Nat.le_of_ble_eq_true rfl) ht2.1 ⟨by decide, by decide⟩ ⟨by decide, by decide⟩ ?_
  refine s_astore_n (pc := 15) (lo' := [(2, .ref 67), (1, .ref 0), (0, .ref 1000050)]) dL_law_15 rfl (Nat.le_of_ble_eq_true rfl) rfl ?_
  refine s_iconst (pc := 16) dL_law_16 (v := nI (7 * 0)) rfl ?_
  refine s_istore_n (pc := 17) (lo' := [(3, .int (nI (7 * 0))), (2, .ref 67), (1, .ref 0), (0, .ref 1000050)]) dL_law_17 rfl (Nat.le_of_ble_eq_true rfl) rfl ?_
  refine s_widen (c2 := lw_c 0) (s2 := lw_s 0) (by decide) (by decide) ?_
  exact lw_loop hL hv hm h_feed h_end h_town h_law h_fault h_day h_view h_pull h_stuff h_set h_wall h_sender h_sees h_ways h_way h_compare h_signal h_heard h_best h_step h_unwalk h_served h_walk h_cover h_serves h_clash h_colour h_span h_places h_place h_echo h_why h_breach h_count h_image h_again 512 0 rfl _ _ _ _ hi0
theorem st_whole {n : Nat} {Iv : Nat → pN → pI → pL → pR → Prop} (hv : ∀ k N I L P, Iv k N I L P → WT N P ∧ p_tp N 0 14 ∧ p_tp N 67 15) (hm : ∀ k N I L P, Iv k N I L P → Iv (k + 1) N I L P) (h_feed : ∀ k, k < 512 → Sp_feed n (Iv k) (Iv (k + 1))) (h_end : ∀ k, k < 512 → Sp_end n (Iv k) (Iv (k + 1))) (h_town : ∀ k, k < 512 → Sp_town n (Iv k) (Iv (k + 1))) (h_law : ∀ k, k < 512 → Sp_law n (Iv k) (Iv (k + 1))) (h_fault : ∀ k, k < 512 → Sp_fault n (Iv k) (Iv (k + 1))) (h_day : ∀ k, k < 512 → Sp_day n (Iv k) (Iv (k + 1))) (h_view : ∀ k, k < 512 → Sp_view n (Iv k) (Iv (k + 1))) (h_pull : ∀ k, k < 512 → Sp_pull n (Iv k) (Iv (k + 1))) (h_stuff : ∀ k, k < 512 → Sp_stuff n (Iv k) (Iv (k + 1))) (h_set : ∀ k, k < 512 → Sp_set n (Iv k) (Iv (k + 1))) (h_wall : ∀ k, k < 512 → Sp_wall n (Iv k) (Iv (k + 1))) (h_sender : ∀ k, k < 512 → Sp_sender n (Iv k) (Iv (k + 1))) (h_sees : ∀ k, k < 512 → Sp_sees n (Iv k) (Iv (k + 1))) (h_ways : ∀ k, k < 512 → Sp_ways n (Iv k) (Iv (k + 1))) (h_way : ∀ k, k < 512 → Sp_way n (Iv k) (Iv (k + 1))) (h_compare : ∀ k, k < 512 → Sp_compare n (Iv k) (Iv (k + 1))) (h_signal : ∀ k, k < 512 → Sp_signal n (Iv k) (Iv (k + 1))) (h_heard : ∀ k, k < 512 → Sp_heard n (Iv k) (Iv (k + 1))) (h_best : ∀ k, k < 512 → Sp_best n (Iv k) (Iv (k + 1))) (h_step : ∀ k, k < 512 → Sp_step n (Iv k) (Iv (k + 1))) (h_unwalk : ∀ k, k < 512 → Sp_unwalk n (Iv k) (Iv (k + 1))) (h_served : ∀ k, k < 512 → Sp_served n (Iv k) (Iv (k + 1))) (h_walk : ∀ k, k < 512 → Sp_walk n (Iv k) (Iv (k + 1))) (h_cover : ∀ k, k < 512 → Sp_cover n (Iv k) (Iv (k + 1))) (h_serves : ∀ k, k < 512 → Sp_serves n (Iv k) (Iv (k + 1))) (h_clash : ∀ k, k < 512 → Sp_clash n (Iv k) (Iv (k + 1))) (h_colour : ∀ k, k < 512 → Sp_colour n (Iv k) (Iv (k + 1))) (h_span : ∀ k, k < 512 → Sp_span n (Iv k) (Iv (k + 1))) (h_places : ∀ k, k < 512 → Sp_places n (Iv k) (Iv (k + 1))) (h_place : ∀ k, k < 512 → Sp_place n (Iv k) (Iv (k + 1))) (h_echo : ∀ k, k < 512 → Sp_echo n (Iv k) (Iv (k + 1))) (h_why : ∀ k, k < 512 → Sp_why n (Iv k) (Iv (k + 1))) (h_breach : ∀ k, k < 512 → Sp_breach n (Iv k) (Iv (k + 1))) (h_count : ∀ k, k < 512 → Sp_count n (Iv k) (Iv (k + 1))) (h_image : ∀ k, k < 512 → Sp_image n (Iv k) (Iv (k + 1))) (h_again : ∀ k, k < 512 → Sp_again n (Iv k) (Iv (k + 1))) {q1 q2 : pN × pI × pL × pR} (hq : st_made n q1 q2) (hi0 : Iv 0 q2.1 q2.2.1 q2.2.2.1 q2.2.2.2) {p : Program} {e : Env} {s : State} {m : MethodId} {below : List Frame} {meth : Method} {c : Code} (l : Launch) {b L : Nat} {xs : Nat → Int32} (hL : L ≤ 3584) (C0 : lw_At p s m meth c b L xs) : W p l e room_1 s m #[Value.ref b] below meth c s.heap [] 0 0 (lw_Z below #[Value.ref b] s) (entryFrame m ([Value.ref b] : List Value).toArray 4) := by
  obtain ⟨zG, g1, g2, g3, g4, hE⟩ := st_E l hL C0
  obtain ⟨hx, hb, hr, hml, hown, hts, hX, hbl, hlocks, hgv⟩ := C0
  subst g1
  have hl := lv_entry ([.ref b]) (n := 4) (Nat.le_of_ble_eq_true rfl)
  rw [lg_entry_eq]
  generalize (lg_sl ([.ref b]) ++ List.replicate (4 - (lg_sl ([.ref b])).length) Slot.unset).toArray = ls at hl ⊢
  have hl2 : lv_has ls 4 ([((0 : Nat), Value.ref 1000050)].map (p_l zG)) := by
    have ea : p_ad zG 1000050 = b := (p_ad_st zG 50).trans g4
    show lv_has ls 4 [((0 : Nat), Value.ref (p_ad zG 1000050))]
    rw [ea]
    exact hl
  have hH0 : p_H zG N00 I00 L00 P00 s.heap := ⟨by rw [g2]; rfl, by decide, fun a ha => absurd ha (Nat.not_lt_zero a)⟩
  have hB : p_B zG (mL meth.name) p s m #[Value.ref b] meth c := ⟨hx, hb, hml, hr, hlocks, hown, rfl, fun w hw => hts w (List.mem_filter.mp hw).1, hE⟩
  have hK := lw_new (G := zG) (nm := meth.name) (by rw [g3]; exact hL) hv hm h_feed h_end h_town h_law h_fault h_day h_view h_pull h_stuff h_set h_wall h_sender h_sees h_ways h_way h_compare h_signal h_heard h_best h_step h_unwalk h_served h_walk h_cover h_serves h_clash h_colour h_span h_places h_place h_echo h_why h_breach h_count h_image h_again hq hi0 p e s m #[Value.ref b] below meth c s.heap [] ls hB hH0 va_S.rf hl2
  intro T hT X
  obtain ⟨t, a1, o, b1, b2, b3, zJ, b4, b5⟩ := hK T hT X
  obtain ⟨⟨zr, zN, zI, zL, zP, c1, c2, c3⟩, c4⟩ := b3
  have c5 : zr = some (.int 1) := c2
  subst c5
  have ho : o = .returned (some (.int 1)) := c1
  refine ⟨t, a1, o, b1, b2, ho, b4.1, b4.2.1, ?_⟩
  exact State.sameButNew.drop_fresh (L := []) (J := zJ) b4.2.2 (fun x hx2 => by have h := b5 x hx2; rw [← g2]; exact h)
