/-! contracts, calls, entries -/
def p_rm (d mc ms : Nat) : Room := { frames := d, cells := mc, slots := ms, locals := 100 * d }
def p_Pc (G : pG) (as : List Value) (N : pN) (I : pI) (L : pL) (P : pR) : Array Value → State → Prop := fun v U => v = (as.map (p_v G)).toArray ∧ p_E G U ∧ p_H G N I L P U.heap
def p_ws (M : pM) : List Cond := Cond.code M.1 M.2.1 M.2.2.1 M.2.2.2 :: p_tbl
/-- THE CONTRACT: called with as in the pure heap, M returns, with Q; d levels deep, mc cells of ms slots at most -/
def MT (G : pG) (M : pM) (d mc ms : Nat) (as : List Value) (N : pN) (I : pI) (L : pL) (P : pR) (Q : pQ) : Prop := Met G.1 M.1 (p_ws M) (p_rm d mc ms) (p_Pc G as N I L P) (p_Qc G Q) mc ms (p_A G)
theorem p_args (G : pG) : ∀ (as : List Value) (i : Nat), lv_args i (as.map (p_v G)) = (lv_args i as).map (p_l G)
  | [], _ => rfl
  | v :: vs, i => by
    simp only [List.map_cons, lv_args, p_v_cat]
    rw [p_args G vs]
    rfl
theorem p_sl (G : pG) (as : List Value) : (lg_sl (as.map (p_v G))).length = (lg_sl as).length := by
  induction as with
  | nil => rfl
  | cons v t ih =>
    unfold lg_sl at ih ⊢
    rw [List.map_cons, List.flatMap_cons, List.flatMap_cons, List.length_append, List.length_append, ih, p_v_cat]
    by_cases h : v.category = 2 <;> simp [h]
theorem p_tblgood : ∀ w ∈ p_tbl, goodWord w = true := fun _ h => (List.mem_filter.mp h).2
theorem p_good {M : pM} (h : Cond.code M.1 M.2.1 M.2.2.1 M.2.2.2 ∈ p_tbl) : GoodIn p_tbl (p_ws M) := by
  intro w hw
  have hm : w ∈ p_tbl := by
    rcases List.mem_cons.mp hw with h1 | h1
    · rw [h1]; exact h
    · exact h1
  exact ⟨hm, good_of_word (p_tblgood w hm)⟩
theorem p_blind {G : pG} {as : List Value} {N : pN} {I : pI} {L : pL} {P : pR} : FrameBlind (p_Pc G as N I L P) := fun a U g mk h => ⟨h.1, h.2.1.to (State.WarmedH.refl U) h.2.1.2.1 (fun _ _ => rfl), h.2.2⟩
/-- a method's contract by a walk of its body -/
theorem MT.of {G : pG} {M : pM} {d mc ms : Nat} {as : List Value} {N : pN} {I : pI} {L : pL} {P : pR} {Q : pQ} (hp : plainName M.1.cls = true) (hn : (lg_sl as).length ≤ M.2.2.1) (k : SW G M (p_rm d mc ms) mc ms 0 0 Q 0 (lv_args 0 as) [] N I L P) : MT G M d mc ms as N I L P Q := by
  refine Met.ofW (cc := M.2.1) (maxL := M.2.2.1) (ret := M.2.2.2) hp rfl ?_
  intro p e s m args below meth c s₁ B hml hv
  obtain ⟨rfl, hE, hH⟩ := hv
  have hts : ∀ w ∈ p_tbl, w.before ((as.map (p_v G)).toArray) s = true := fun w hw => atoms_spec (ws := p_ws M) B.pre w (List.mem_cons_of_mem _ hw)
  have hl := lv_entry (as.map (p_v G)) (n := M.2.2.1) (by rw [p_sl]; exact hn)
  rw [lg_entry_eq]
  rw [p_args] at hl
  exact k p e s m _ below meth c s.heap [] _ ⟨B.exec, B.bytes, hml, B.returns, B.notSynchronized, findClass_of_methodNamed B.named, (name_of_methodNamed B.named B.method).1, hts, hE⟩ hH va_S.rf hl
/-- what the tables say of a method that is called with n arguments -/
def p_MK (M : pM) (n : Nat) : Prop := Cond.code M.1 M.2.1 M.2.2.1 M.2.2.2 ∈ p_tbl ∧ Cond.initialized M.1.cls ∈ p_tbl ∧ M.1.cls ≠ "java/lang/invoke/MethodHandle" ∧ M.1.cls ≠ "java/lang/invoke/VarHandle" ∧ (parseMethodDescriptor M.1.desc).map (fun d => d.parameters.length) = some n
def p_MV (M : pM) : Prop := Cond.instanceMethod M.1 ∈ p_tbl ∧ Cond.selects M.1.cls M.1 M.1 ∈ p_tbl
section Calls
variable {G : pG} {M M' : pM} {R : Room} {mc ms cs sl mc' ms' d : Nat} {Q Q' : pQ} {pc : Nat} {lo lo' : List (Nat × Value)} {st as : List Value} {N : pN} {I : pI} {L : pL} {P : pR}
theorem p_cat (G : pG) (st : List Value) : ((st.map (p_v G)).map fun v => v.category) = st.map fun v => v.category := by
  rw [List.map_map]
  exact List.map_congr_left (fun v _ => p_v_cat G v)
/-- behind a call -/
theorem p_back {p : Program} {e : Env} {s : State} {m : MethodId} {args : Array Value} {below : List Frame} {meth : Method} {c : Code} {H : Heap} {locs : List Loc} {ls : Array Slot} {st0 : List Value} {a : Array Value} (B : p_B G M p s m args meth c) (hH : p_H G N I L P H) (hS : va_S (p_A G) s.heap H locs) (hl : lv_has ls M.2.2.1 (lo.map (p_l G)))
    (hr : va_Run p G.1 e R s m args below meth c H locs cs sl mc' ms' (F0 m pc ls st0) (st.map (p_v G)) (p_Qc G Q' a) (p_A G))
    (kk : ∀ (r : Option Value) (N' : pN) (I' : pI) (L' : pL) (P' : pR), Q' r N' I' L' P' → SW G M R mc ms (cs + mc') (sl + ms') Q (pc + 3) lo (r.toList ++ st) N' I' L' P') :
    W p G.1 e R s m args below meth c H locs cs sl (MQ below (p_Qc G Q) args s mc ms (p_A G)) (F0 m pc ls st0) := by
  intro T hT X
  obtain ⟨v, st₀, t, T', Lc, h0, X', hL, e1, e2, ⟨⟨r, N', I', L', P', hv, hq, hH'⟩, hlow⟩, stp⟩ := hr T hT X
  have hv' : v = r.map (p_v G) := Outcome.returned.inj hv
  subst hv'
  have hb : g_b G ≤ s.heap.size := B.2.2.2.2.2.2.2.2.2.1
  have hS' : va_S (p_A G) s.heap T'.heap (locs ++ Lc) := by
    refine ⟨?_, fun q h1 h2 => ?_, fun q hq => ?_⟩
    · exact X'.same.2.1
    · have h3 : q < g_b G := Nat.lt_of_not_le h2
      rw [e1, hlow q h3, h0]
      exact hS.2.1 q h1 h2
    · rcases List.mem_append.mp hq with h | h
      · exact hS.2.2 q h
      · exact hL q h
  have hst : (r.map (p_v G)).toList ++ st.map (p_v G) = (r.toList ++ st).map (p_v G) := by cases r <;> rfl
  obtain ⟨t2, a1, b1⟩ := kk r N' I' L' P' hq p e s m args below meth c T'.heap (locs ++ Lc) ls B (by rw [e1]; exact hH') hS' hl T' rfl X'
  refine ⟨t2, stp t2 ?_, b1⟩
  rw [hst]
  exact a1
end Calls
