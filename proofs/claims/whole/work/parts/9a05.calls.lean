/-! calls and throws in the world of nn cells -/
section YD
variable {p : Program} {l : Launch} {e : Env} {R : Room} {s : State} {m : MethodId} {args : Array Value} {below : List Frame} {meth : Method} {c : Code} {H : Heap} {locs : List Loc} {cells slots : Nat} {Z : State → Prop} {cc : ByteArray} {nL nn : Nat} {E : zE} {own idx y d : Nat} {bb : Bool} {Q : Option Value → zM → Prop} {u : zM} {pc : Nat} {L : Array Slot} {rest st0 : List Value} {a : Array Value} {H0 : Heap}
theorem yts (hts : ∀ w ∈ yTS, w.before args s = true) : ∀ w ∈ zTS, w.before args s = true := fun w hw => hts w (List.mem_append_left _ hw)
theorem ycB (hts : ∀ w ∈ yTS, w.before args s = true) (hin : (own, idx, y) ∈ zMls) (hn : zOo y ≠ 13) {rm : Room} {mc ms : Nat} (hrc : rm.cells = mc) (hrs : rm.slots = ms) (hrf : rm.frames = d + 8) (hrl : rm.locals = 64 * d + 600) (hRf : d + 9 ≤ R.frames) (hRl : 64 * d + 664 ≤ R.locals) : CallB R s args (zOwn own) idx (zY y) (zBy y) (zMx y) (zRt y) (yW y) rm mc ms (zNa y) := by
  obtain ⟨hl, hy⟩ := zMls_in hin
  obtain ⟨h1, h2, h3, h4, h5, h6, -⟩ := zMw hy hn
  refine callB_of (ws' := yTS) (zNa y) hts (fun w hw => ?_) rfl hrc hrs (yts hts _ h2) (yts hts _ hl) ⟨h6.1, h6.2, h4⟩ ⟨?_, ?_⟩
  · rcases List.mem_cons.mp hw with rfl | hw
    · exact ⟨List.mem_append_left _ h1, zTS_good _ h1⟩
    · exact ⟨hw, yTS_good _ hw⟩
  · rw [hrf]; omega
  · rw [hrl]; exact zAr h3 hRl
theorem ycW (hts : ∀ w ∈ yTS, w.before args s = true) (hK : va_K E.1 vwCl (zTys E) s) (hst : yX bb E s s.heap) (hlt : ∀ {x : Nat} {q : Nat}, zShapes[x]? = some (.inl q) → x < nn) (hin : (own, idx, y) ∈ zMls) (hn : zOo y ≠ 13) (hk : zRc y < 12) {rm : Room} {mc ms : Nat} (hrc : rm.cells = mc) (hrs : rm.slots = ms) (hrf : rm.frames = d + 8) (hrl : rm.locals = 64 * d + 600) (hRf : d + 9 ≤ R.frames) (hRl : 64 * d + 664 ≤ R.locals)
    {as : List Value} {x : Nat} (hs : zShapes[x]? = some (.inl (zRc y))) (hH : yH nn E u H) (hS : va_S (zA E) s.heap H locs) : CallW R s args (zOwn own) (zY y).cls idx (zY y) (zBy y) (zMx y) (zRt y) (yW y) rm mc ms (zNa y) ∧ PreV s H (zY y).cls (zAd E x) (va_Pc ((.ref x :: as).map (zCv (zAd E))) (yBi nn bb E u)) (as.map (zCv (zAd E))) := by
  obtain ⟨g1, g2, q, g3, g4⟩ := zMwV (zMls_in hin).2 hn hk
  have hrecv := va_recv hK hH.1 (a := zAd E x) (ci := zRc y) (q0 := x) g3 (by rw [yWs_at E u (hlt hs), zCont_o hs])
  rw [g4] at hrecv
  exact ⟨⟨ycB hts hin hn hrc hrs hrf hrl hRf hRl, yts hts _ g1, yts hts _ g2⟩, yBlind nn bb _, hrecv, fun U hU hW => ⟨rfl, ⟨va_K.moved hW.alike hK, by rw [hU]; exact hH⟩, by rw [hU]; exact hH.2.2, hst.warm hW (by rw [hU]; exact hS.2.1)⟩⟩
theorem ycPs (hK : va_K E.1 vwCl (zTys E) s) (hst : yX bb E s s.heap) {as : List Value} (hH : yH nn E u H) (hS : va_S (zA E) s.heap H locs) : PreS s H (va_Pc (as.map (zCv (zAd E))) (yBi nn bb E u)) (as.map (zCv (zAd E))) := ⟨yBlind nn bb _, fun U hU hW => ⟨rfl, ⟨va_K.moved hW.alike hK, by rw [hU]; exact hH⟩, by rw [hU]; exact hH.2.2, hst.warm hW (by rw [hU]; exact hS.2.1)⟩⟩
theorem ycV (hx : p.tables.exec = Jvm.exec) (hb : c.code = cc) (hml : c.maxLocals = nL) (hown : s.vm.findClass (zOwn own) = some m.cls) (hts : ∀ w ∈ yTS, w.before args s = true) (hK : va_K E.1 vwCl (zTys E) s) (hst : yX bb E s s.heap) (hlt : ∀ {x : Nat} {q : Nat}, zShapes[x]? = some (.inl q) → x < nn) (hRf : d + 9 ≤ R.frames) (hRl : 64 * d + 664 ≤ R.locals) (hcs : cells ≤ R.cells ∧ slots ≤ R.slots)
    (hin : (own, idx, y) ∈ zMls) (hn : zOo y ≠ 13) (hk : zRc y < 12) {as r : List Value} {x : Nat} (hM : Met l (zY y) (yW y) (zRm d) (va_Pc ((.ref x :: as).map (zCv (zAd E))) (yBi nn bb E u)) (yQ nn E Q) 0 0 (zA E)) (hs : zShapes[x]? = some (.inl (zRc y))) (hr : r.length ≤ 4) (hlen : as.length = zNa y) (hH : yH nn E u H) (hS : va_S (zA E) s.heap H locs) (hsz : L.size = nL) (hdg : decode cc pc = .ok (.invokevirtual idx, 3))
    (kk : ∀ (v : Option Value) (u1 : zM) (H1 : Heap) (locs1 : List Loc), zRet v → Q v u1 → yH nn E u1 H1 → va_S (zA E) s.heap H1 locs1 → W p l e R s m args below meth c H1 locs1 cells slots Z (F0 m (pc + 3) L ((v.toList ++ r).map (zCv (zAd E))))) : W p l e R s m args below meth c H locs cells slots Z (F0 m pc L ((as.reverse ++ .ref x :: r).map (zCv (zAd E)))) := by
  obtain ⟨cw, hp⟩ := ycW (rm := zRm d) (as := as) hts hK hst hlt hin hn hk rfl rfl rfl rfl hRf hRl hs hH hS
  refine yCall_go (va_runV (As := as.map (zCv (zAd E))) (rest := r.map (zCv (zAd E))) (b := zAd E x) ⟨hx, hb, hml, hown, hts⟩ hM cw hp rfl (by rw [List.length_map]; exact hlen) hsz (by simp [zCv]) (lv_room (zRest r hr)) hdg hcs) hS (fun v u1 H1 locs1 hz hq hH1 hS1 => ?_)
  rw [zToL hz]
  exact kk v u1 H1 locs1 hz hq hH1 hS1
theorem ycS (hx : p.tables.exec = Jvm.exec) (hb : c.code = cc) (hml : c.maxLocals = nL) (hown : s.vm.findClass (zOwn own) = some m.cls) (hts : ∀ w ∈ yTS, w.before args s = true) (hK : va_K E.1 vwCl (zTys E) s) (hst : yX bb E s s.heap) (hRf : d + 9 ≤ R.frames) (hRl : 64 * d + 664 ≤ R.locals) (hcs : cells ≤ R.cells ∧ slots ≤ R.slots)
    (hin : (own, idx, y) ∈ zMls) (hn : zOo y ≠ 13) (hk : zRc y = 99) {as r : List Value} (hM : Met l (zY y) (yW y) (zRm d) (va_Pc (as.map (zCv (zAd E))) (yBi nn bb E u)) (yQ nn E Q) 0 0 (zA E)) (hr : r.length ≤ 4) (hlen : as.length = zNa y) (hH : yH nn E u H) (hS : va_S (zA E) s.heap H locs) (hsz : L.size = nL) (hdg : decode cc pc = .ok (.invokestatic idx, 3))
    (kk : ∀ (v : Option Value) (u1 : zM) (H1 : Heap) (locs1 : List Loc), zRet v → Q v u1 → yH nn E u1 H1 → va_S (zA E) s.heap H1 locs1 → W p l e R s m args below meth c H1 locs1 cells slots Z (F0 m (pc + 3) L ((v.toList ++ r).map (zCv (zAd E))))) : W p l e R s m args below meth c H locs cells slots Z (F0 m pc L ((as.reverse ++ r).map (zCv (zAd E)))) := by
  refine yCall_go (va_runS (As := as.map (zCv (zAd E))) (rest := r.map (zCv (zAd E))) ⟨hx, hb, hml, hown, hts⟩ hM ⟨ycB (rm := zRm d) hts hin hn rfl rfl rfl rfl hRf hRl, yts hts _ (zMwS (zMls_in hin).2 hn hk)⟩ (ycPs hK hst hH hS) rfl (by rw [List.length_map]; exact hlen) hsz (by simp) (lv_room (zRest r hr)) hdg hcs) hS (fun v u1 H1 locs1 hz hq hH1 hS1 => ?_)
  rw [zToL hz]
  exact kk v u1 H1 locs1 hz hq hH1 hS1
/-- a callee that throws: it goes on to the caller -/
theorem yThrow_go (hr : vx_Run p l e R s m args below meth c H locs 0 0 1 6 (F0 m pc L st0) rest (fun _ _ _ => False) (yXC nn E Q) (zA E)) (hK : va_K E.1 vwCl (zTys E) s) (hS : va_S (zA E) s.heap H locs) (htab : ∀ x ∈ c.exceptionTable.toList, False) (hlk : meth.locks = false) : W p l e R s m args below meth c H locs 0 0 (vx_MQ below (fun _ _ _ _ => False) (yXC nn E Q) args s 1 6 (zA E)) (F0 m pc L st0) := by
  intro T hT X
  rcases hr T hT X with ⟨v, st₀, t, T', L1, h0, X', hL, e1, e2, hF, st⟩ | ⟨q, st₀, t, T', L1, C, ce, h0, X', hL, e1, e2, ⟨⟨ex, u1, hex, hC, hq, hb⟩, hF⟩, hce, hcv, hcl, st⟩
  · exact hF.elim
  · obtain ⟨k1, k2, k3⟩ := vx_keep h0 e1 hS (fun _ _ z => z) (fun _ z => z) hL hF
    obtain ⟨t3, a1, b1⟩ := vx_out (p := p) (l := l) (e := e) (R := R) (below := below) (args := args) (Qc := fun _ _ _ _ => False) (XC := yXC nn E Q) (free := zA E) (cells := 0 + 1) (slots := 0 + 6) (mc := 1) (ms := 6) (m := m) (pc := pc) (ls := L) (rest := rest) (locs := locs ++ L1) (H := T'.heap) (E := C) (ce := ce) (q := q) (fun x hx => (htab x hx).elim) hlk (by rw [e1]; exact hce) hcv hcl (fun t2 ht2 hA2 => ⟨⟨ex, u1, hex, hC, hq, va_K.moved hA2 hK, by rw [ht2, e1]; exact hb.2⟩, k3.F ht2⟩) k3.2.2 (by decide) (by decide) T' rfl X'
    exact ⟨t3, st.trans a1, b1⟩
/-- a throw of one's own -/
theorem yNew_go (hx : p.tables.exec = Jvm.exec) (hb : c.code = cc) (hl : l.stackTraces = false) (hml : c.maxLocals = nL) (hown : s.vm.findClass RX11 = some m.cls) (hts : ∀ w ∈ yTS, w.before args s = true) (hK : va_K E.1 vwCl (zTys E) s) (hst : yX bb E s s.heap) (hRf : 9 ≤ R.frames) (hRl : 664 ≤ R.locals) (hRc : 1 ≤ R.cells) (hRs : 6 ≤ R.slots) (htab : ∀ x ∈ c.exceptionTable.toList, False) (hlk : meth.locks = false)
    {ik k a0 b0 : Nat} {v : Int32} (hdg : decode cc pc = .ok (.new ik, 3)) (hnew : yNew cc 11 pc (.new ik, 3, a0, b0, k, v) = true) {st : List Value} (hlen : st.length ≤ 12) (hq : Q (some (.int v)) u) (hH : yH nn E u H) (hS : va_S (zA E) s.heap H locs) (hsz : L.size = nL) : W p l e R s m args below meth c H locs 0 0 (vx_MQ below (fun _ _ _ _ => False) (yXC nn E Q) args s 1 6 (zA E)) (F0 m pc L (st.map (zCv (zAd E)))) := by
  have h1 : (yExs.any fun q => decide (q.1 = v) && q.2.2.1 == ik && zMsg.any fun i => decide (decode cc (pc + 3) = .ok (.dup, 1)) && ((decide (decode cc (pc + 4) = .ok (.ldc i, 2)) && decide (decode cc (pc + 6) = .ok (.invokespecial q.2.2.2, 3)) && decide (decode cc (pc + 9) = .ok (.athrow, 1))) || (decide (decode cc (pc + 4) = .ok (.ldc_w i, 3)) && decide (decode cc (pc + 7) = .ok (.invokespecial q.2.2.2, 3)) && decide (decode cc (pc + 10) = .ok (.athrow, 1))))) = true := by
    simpa only [yNew, show ((11 : Nat) == 13) = false from rfl, show ((11 : Nat) == 11) = true from rfl, show ((3 : Nat) == 3) = true from rfl, Bool.false_or, Bool.true_and] using hnew
  obtain ⟨ex, hex, h2⟩ := List.any_eq_true.mp h1
  simp only [Bool.and_eq_true, decide_eq_true_eq, beq_iff_eq] at h2
  obtain ⟨⟨rfl, rfl⟩, h3⟩ := h2
  obtain ⟨i, hi, h4⟩ := List.any_eq_true.mp h3
  simp only [Bool.and_eq_true, Bool.or_eq_true, decide_eq_true_eq] at h4
  obtain ⟨d3, h5⟩ := h4
  have hg := List.all_eq_true.mp yEx_ok ex hex
  simp only [Bool.and_eq_true] at hg
  obtain ⟨⟨g1, g2⟩, g3⟩ := hg
  obtain ⟨tx, sa, hmsg⟩ := hst.2.1.1 i hi
  have hw : ∀ w ∈ (Jvm.Cond.classLink RX11 ex.2.2.1 ex.2.1 :: .initialized ex.2.1 :: (yAtS RX11 ex.2.2.2 ex.2.1).filter goodWord), w.before args s = true := fun w h => hts w (List.mem_append_right _ (List.mem_flatten.mpr ⟨_, List.mem_map.mpr ⟨ex, hex, rfl⟩, h⟩))
  have hat : ∀ w ∈ yAtS RX11 ex.2.2.2 ex.2.1, w.before args s = true := vx_hat (B := yBad ex.2.1) (fun w h => hw w (List.mem_cons_of_mem _ (List.mem_cons_of_mem _ h))) (fun w h => of_decide_eq_true (List.all_eq_true.mp g3 w h)) (vx_c (va_Nw.use rfl (hst.2.1.2.1 ex hex)) (fun w h => by
    obtain ⟨c9, hc9, rfl⟩ := List.mem_map.mp h
    exact va_Nw.use rfl (hst.2.1.2.2.1 c9 hc9)))
  have hsum : ((st.map (zCv (zAd E))).map fun v => v.category).sum ≤ 24 := by
    have hc : ∀ v : Value, v.category ≤ 2 := fun v => by cases v <;> simp [Value.category]
    have key : ∀ r : List Value, ((r.map (zCv (zAd E))).map fun v => v.category).sum ≤ 2 * r.length := by
      intro r
      induction r with
      | nil => simp
      | cons a t ih =>
        simp only [List.map_cons, List.sum_cons, List.length_cons]
        have := hc (zCv (zAd E) a)
        omega
    have := key st
    omega
  have hX : ∀ t : State, s.vm.Alike t.vm → H.size ≤ t.heap.size → (∀ q : Nat, q < H.size → t.heap[q]? = H[q]?) → yXC nn E Q ex.2.1 s t := fun t hA h6 h7 => ⟨⟨ex, u, hex, rfl, hq, va_K.moved hA hK, hH.kept h6 h7⟩, Nat.le_trans hS.1 h6, fun q hq1 hq2 => (h7 q (Nat.lt_of_lt_of_le hq1 hS.1)).trans (hS.2.1 q hq1 hq2)⟩
  rcases h5 with ⟨⟨d4, d6⟩, d9⟩ | ⟨⟨d4, d6⟩, d9⟩
  · refine yMake (A := zA E) (k := 6) (text := tx) (sa := sa) hx hb hl hown g1 (hw _ List.mem_cons_self) (hw _ (List.mem_cons_of_mem _ List.mem_cons_self)) hmsg hat (fun w h => List.all_eq_true.mp g2 w h) hst.2.2.2.2.2.1 hst.2.2.2.2.2.2 hS (hsz.trans hml.symm) hdg d3 (Or.inl ⟨rfl, d4⟩) d6 (by omega) (by omega) (by omega) (by omega) (fun q ce H1 hce hcv hcl h6 h7 => ?_)
    exact yAthrow hx hb (show decode cc (pc + 6 + 3) = .ok (.athrow, 1) from d9) (vx_out (fun x hx => (htab x hx).elim) hlk hce hcv hcl (fun t ht hA => hX t hA (by rw [ht]; exact h6) (fun a ha => by rw [ht]; exact h7 a ha)) hS.2.2 (by decide) (by decide))
  · refine yMake (A := zA E) (k := 7) (text := tx) (sa := sa) hx hb hl hown g1 (hw _ List.mem_cons_self) (hw _ (List.mem_cons_of_mem _ List.mem_cons_self)) hmsg hat (fun w h => List.all_eq_true.mp g2 w h) hst.2.2.2.2.2.1 hst.2.2.2.2.2.2 hS (hsz.trans hml.symm) hdg d3 (Or.inr ⟨rfl, d4⟩) d6 (by omega) (by omega) (by omega) (by omega) (fun q ce H1 hce hcv hcl h6 h7 => ?_)
    exact yAthrow hx hb (show decode cc (pc + 7 + 3) = .ok (.athrow, 1) from d9) (vx_out (fun x hx => (htab x hx).elim) hlk hce hcv hcl (fun t ht hA => hX t hA (by rw [ht]; exact h6) (fun a ha => by rw [ht]; exact h7 a ha)) hS.2.2 (by decide) (by decide))
end YD
