/-! the law's own calls -/
section LR
variable {p : Program} {l : Launch} {e : Env} {R : Room} {s : State} {m : MethodId} {args : Array Value} {below : List Frame} {meth : Method} {c : Code} {H : Heap} {locs : List Loc} {cells slots : Nat} {Z : State → Prop} {cc : ByteArray} {E : zE} {u : zM} {pc : Nat} {L : Array Slot} {rest st0 : List Value}
/-- what the law's frame has all along -/
def lawF (p : Program) (s : State) (m : MethodId) (args : Array Value) (c : Code) (R : Room) (E : zE) (cc : ByteArray) : Prop := p.tables.exec = Jvm.exec ∧ c.code = cc ∧ c.maxLocals = 7 ∧ s.vm.findClass RL = some m.cls ∧ (∀ w ∈ yTS, w.before args s = true) ∧ va_K E.1 vwCl (zTys E) s ∧ yX false E s s.heap ∧ yX true (yEd E) s s.heap ∧ 100 ≤ R.frames ∧ 6000 ≤ R.locals
theorem lcX (hF : lawF p s m args c R E cc) (hcs : cells ≤ R.cells ∧ slots ≤ R.slots) {idx y : Nat} (hk0 : (zMls.contains (13, idx, y) && decide (zOo y ≠ 13) && ySb (zOo y) false && decide (zRc y = 10)) = true) {as : List Value} {Q : Option Value → zM → Prop} (hc : zCall 60 false y (.ref 0 :: as) u Q) (hlen : as.length = zNa y) {r : List Value} (hr : r.length ≤ 4) (hst0 : st0 = (as.reverse ++ .ref 0 :: r).map (zCv (zAd E))) (hH : yH 143 E u H) (hS : va_S (zA E) s.heap H locs) (hsz : L.size = 7) (hdg : decode cc pc = .ok (.invokevirtual idx, 3))
    (kk : ∀ (v : Option Value) (u1 : zM) (H1 : Heap) (locs1 : List Loc), (zRet v ∧ (v = none ↔ zRb y = 0)) → Q v u1 → u1 142 = u 142 → yH 143 E u1 H1 → va_S (zA E) s.heap H1 locs1 → W p l e R s m args below meth c H1 locs1 cells slots Z (F0 m (pc + 3) L ((v.toList ++ r).map (zCv (zAd E))))) : W p l e R s m args below meth c H locs cells slots Z (F0 m pc L st0) := by
  obtain ⟨hx, hb, hml, hown, hts, hK, hst, -, hRf, hRl⟩ := hF
  simp only [Bool.and_eq_true, decide_eq_true_eq] at hk0
  obtain ⟨⟨⟨hin, hn⟩, hsd⟩, hk⟩ := hk0
  have hin2 := List.contains_iff_mem.mp hin
  have ha := (zMls_in hin2).2
  have hs0 : zShapes[0]? = some (.inl (zRc y)) := by rw [hk]; decide +kernel
  subst hst0
  refine ycV (own := 13) (d := 60) (nn := 143) (bb := false) hx hb hml hown hts hK hst (fun g => zSh_lt g) (by omega) (by omega) hcs hin2 hn (by rw [hk]; decide) (yCall_met l 143 (Or.inl rfl) false E 60 y _ u _ ha hn hsd (Or.inl rfl) (zCall_sh (zCall_keep 60 (Q2 := fun v w => Q v w ∧ w 142 = u 142) ha hn (fun v w a b => ⟨a, b⟩) hc))) hs0 hr hlen hH hS hsz hdg (fun v u1 H1 locs1 hz hq hH1 hS1 => ?_)
  exact kk v u1 H1 locs1 ⟨hz, hq.2⟩ hq.1.1 hq.1.2 hH1 hS1
theorem yInts {ad ad2 : Nat → Nat} (as : List Value) (h : (as.all fun v => match v with
    | .int _ => true
    | _ => false) = true) : as.map (zCv ad) = as := by
  induction as with
  | nil => rfl
  | cons a t ih =>
    simp only [List.all_cons, Bool.and_eq_true] at h
    rw [List.map_cons, ih h.2]
    cases a <;> first | rfl | (exact absurd h.1 (by simp))
theorem lcM (hF : lawF p s m args c R E cc) (hcs : cells ≤ R.cells ∧ slots ≤ R.slots) {idx y : Nat} (hk0 : (zMls.contains (13, idx, y) && decide (zOo y ≠ 13) && ySb (zOo y) true && decide (zRc y = 11)) = true) {as : List Value} {Q : Option Value → zM → Prop} (hc : zCall 60 false y (.ref 128 :: as) u Q) (hlen : as.length = zNa y) {r : List Value} (hr : r.length ≤ 4) (hi : ((as ++ r).all fun v => match v with
    | .int _ => true
    | _ => false) = true) (hst0 : st0 = (as.reverse ++ .ref 128 :: r).map (zCv (zAd E))) (hH : yH 143 E u H) (hS : va_S (zA E) s.heap H locs) (hsz : L.size = 7) (hdg : decode cc pc = .ok (.invokevirtual idx, 3))
    (kk : ∀ (v : Option Value) (u1 : zM) (H1 : Heap) (locs1 : List Loc), (zRet v ∧ (v = none ↔ zRb y = 0)) → Q v u1 → u1 142 = u 142 → yH 143 E u1 H1 → va_S (zA E) s.heap H1 locs1 → W p l e R s m args below meth c H1 locs1 cells slots Z (F0 m (pc + 3) L (v.toList ++ r))) : W p l e R s m args below meth c H locs cells slots Z (F0 m pc L st0) := by
  obtain ⟨hx, hb, hml, hown, hts, hK, -, hst, hRf, hRl⟩ := hF
  simp only [Bool.and_eq_true, decide_eq_true_eq] at hk0
  obtain ⟨⟨⟨hin, hn⟩, hsd⟩, hk⟩ := hk0
  have hin2 := List.contains_iff_mem.mp hin
  have ha := (zMls_in hin2).2
  have hs0 : zShapes[128]? = some (.inl (zRc y)) := by rw [hk]; decide +kernel
  rw [List.all_append, Bool.and_eq_true] at hi
  have e1 : st0 = (as.reverse ++ .ref 128 :: r).map (zCv (zAd (yEd E))) := by
    rw [hst0, List.map_append, List.map_append, List.map_reverse, List.map_reverse, List.map_cons, List.map_cons, yInts (ad2 := zAd E) as hi.1, yInts (ad2 := zAd E) as hi.1, yInts (ad2 := zAd E) r hi.2, yInts (ad2 := zAd E) r hi.2]
    rfl
  subst e1
  refine ycV (own := 13) (d := 60) (nn := 143) (bb := true) (E := yEd E) hx hb hml hown hts hK hst (fun g => zSh_lt g) (by omega) (by omega) hcs hin2 hn (by rw [hk]; decide) (yCall_met l 143 (Or.inl rfl) true (yEd E) 60 y _ u _ ha hn hsd (Or.inl rfl) (zCall_sh (zCall_keep 60 (Q2 := fun v w => Q v w ∧ w 142 = u 142) ha hn (fun v w a b => ⟨a, b⟩) hc))) hs0 hr hlen ((yH_side (Nat.le_refl 143)).mpr hH) hS hsz hdg (fun v u1 H1 locs1 hz hq hH1 hS1 => ?_)
  have e2 : (v.toList ++ r).map (zCv (zAd (yEd E))) = v.toList ++ r := by
    rw [List.map_append, yInts (ad2 := zAd E) r hi.2]
    rcases hz with rfl | ⟨o, rfl⟩ <;> rfl
  rw [e2]
  exact kk v u1 H1 locs1 ⟨hz, hq.2⟩ hq.1.1 hq.1.2 ((yH_side (Nat.le_refl 143)).mp hH1) hS1
/-- a wrapper -/
theorem lcW (hF : lawF p s m args c R E cc) (hcs : cells + 1 ≤ R.cells ∧ slots + 6 ≤ R.slots) {idx na : Nat} {y : MethodName} {cw : ByteArray} {hd : wHd} {as : List Value} {V : Option Value → zM → Prop} (hM : wMet l E y cw na hd as u V) (hw1 : .methodLink RL idx y ∈ zTS) (hw2 : .static y ∈ zTS) (hw3 : .codeWith y cw (na + 3) (some .int) (wHh na hd) ∈ zTS) (hw4 : .initialized y.cls ∈ zTS) (hd0 : y.cls ≠ "java/lang/invoke/MethodHandle" ∧ y.cls ≠ "java/lang/invoke/VarHandle" ∧ (parseMethodDescriptor y.desc).map (fun d => d.parameters.length) = some (na + 2)) (hna : na ≤ 3) (hlen : as.length = na) (hst0 : st0 = (Value.ref 142 :: as.reverse ++ [Value.ref 0]).map (zCv (zAd E))) (hH : yH 143 E u H) (hS : va_S (zA E) s.heap H locs) (hsz : L.size = 7) (hdg : decode cc pc = .ok (.invokestatic idx, 3))
    (kk : ∀ (v : Option Value) (u1 : zM) (H1 : Heap) (locs1 : List Loc), zRet v → V v u1 → yH 143 E u1 H1 → va_S (zA E) s.heap H1 locs1 → W p l e R s m args below meth c H1 locs1 (cells + 1) (slots + 6) Z (F0 m (pc + 3) L v.toList)) : W p l e R s m args below meth c H locs cells slots Z (F0 m pc L st0) := by
  obtain ⟨hx, hb, hml, hown, hts, hK, hst, -, hRf, hRl⟩ := hF
  have hG : GoodIn yTS (va_wsS RL idx y (wW y cw na hd)) := by
    intro w hw
    unfold va_wsS wW at hw
    simp only [List.mem_append, List.mem_cons, List.not_mem_nil, or_false] at hw
    rcases hw with (rfl | rfl | rfl) | rfl | hw
    · exact ⟨List.mem_append_left _ hw1, zTS_good _ hw1⟩
    · exact ⟨List.mem_append_left _ hw2, zTS_good _ hw2⟩
    · exact ⟨List.mem_append_left _ hw4, zTS_good _ hw4⟩
    · exact ⟨List.mem_append_left _ hw3, zTS_good _ hw3⟩
    · exact ⟨hw, yTS_good _ hw⟩
  have hr := vx_runSX (l := l) (e := e) (below := below) (meth := meth) (cells := cells) (slots := slots) (locs := locs) (H := H) (g := F0 m pc L st0) (rest := []) (As := (wAs as).map (zCv (zAd E))) ⟨hx, hb, hml, hown, hts⟩ hM (vx_cwSW (R := R) (na + 2) hts hG rfl rfl rfl hd0 ⟨by show 80 + 1 ≤ _; omega, by show 8 + (na + 3 + 11) + 5000 ≤ _; omega⟩) (ycPs hK hst hH hS) rfl (by simp [hlen]) hsz (by rw [hst0]; simp) (lv_room (by decide)) hdg hcs
  intro T hT X
  rcases hr T hT X with ⟨v, st₀, t, T', L1, h0, X', hL, e1, e2, ⟨⟨w, u1, hv, hz, hq, hb1⟩, hF1⟩, st⟩ | ⟨q, st₀, t, T', L1, C, ce, h0, X', hL, e1, e2, hx1, hce, hcv, hcl, st⟩
  · cases hv
    obtain ⟨k1, k2, k3⟩ := vx_keep h0 e1 hS (fun _ _ z => z) (fun _ z => z) hL hF1
    obtain ⟨t2, a1, b1⟩ := kk v u1 T'.heap (locs ++ L1) hz hq (by rw [e1]; exact hb1.2) k3 T' rfl X'
    refine ⟨t2, st t2 ?_, b1⟩
    rw [List.append_nil]
    exact a1
  · exact hx1.elim
end LR
