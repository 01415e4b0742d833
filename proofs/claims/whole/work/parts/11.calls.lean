theorem zCls (a : Nat) (ha : a < 12) : ∃ (C : String) (T : u_T) (N : Nat) (ty0 : Nat → FieldType), vwCl[a]? = some (C, T, N) ∧ zTs.getD a (fun _ => ("", "", "", true)) = T ∧ (zFk a).length = N ∧ (∀ w ∈ u_ws C T N, w ∈ zTS) ∧ (∀ k, k < N → parseFieldDescriptor (T k).2.2.1 = some (ty0 k)) ∧ (∀ a, a < N → ∀ b, b < N → a ≠ b → (T a).2.1 ≠ (T b).2.1) := by
  match a, ha with
  | 0, _ => exact ⟨RX0, TX0, 6, tyX0, rfl, rfl, rfl, fun w h => List.mem_append_right _ (List.mem_append_left _ h), tyX0_ok, nmX0⟩
  | 1, _ => exact ⟨RX1, TX1, 12, tyX1, rfl, rfl, rfl, fun w h => List.mem_append_right _ (List.mem_append_right _ (List.mem_append_left _ h)), tyX1_ok, nmX1⟩
  | 2, _ => exact ⟨RX2, TX2, 9, tyX2, rfl, rfl, rfl, fun w h => List.mem_append_right _ (List.mem_append_right _ (List.mem_append_right _ (List.mem_append_left _ h))), tyX2_ok, nmX2⟩
  | 3, _ => exact ⟨RX3, TX3, 3, tyX3, rfl, rfl, rfl, fun w h => List.mem_append_right _ (List.mem_append_right _ (List.mem_append_right _ (List.mem_append_right _ (List.mem_append_left _ h)))), tyX3_ok, nmX3⟩
  | 4, _ => exact ⟨RX4, TX4, 1, tyX4, rfl, rfl, rfl, fun w h => List.mem_append_right _ (List.mem_append_right _ (List.mem_append_right _ (List.mem_append_right _ (List.mem_append_right _ (List.mem_append_left _ h))))), tyX4_ok, nmX4⟩
  | 5, _ => exact ⟨RX5, TX5, 2, tyX5, rfl, rfl, rfl, fun w h => List.mem_append_right _ (List.mem_append_right _ (List.mem_append_right _ (List.mem_append_right _ (List.mem_append_right _ (List.mem_append_right _ (List.mem_append_left _ h)))))), tyX5_ok, nmX5⟩
  | 6, _ => exact ⟨RX6, TX6, 4, tyX6, rfl, rfl, rfl, fun w h => List.mem_append_right _ (List.mem_append_right _ (List.mem_append_right _ (List.mem_append_right _ (List.mem_append_right _ (List.mem_append_right _ (List.mem_append_right _ (List.mem_append_left _ h))))))), tyX6_ok, nmX6⟩
  | 7, _ => exact ⟨RX7, TX7, 5, tyX7, rfl, rfl, rfl, fun w h => List.mem_append_right _ (List.mem_append_right _ (List.mem_append_right _ (List.mem_append_right _ (List.mem_append_right _ (List.mem_append_right _ (List.mem_append_right _ (List.mem_append_right _ (List.mem_append_left _ h)))))))), tyX7_ok, nmX7⟩
  | 8, _ => exact ⟨RX9, TX9, 2, tyX9, rfl, rfl, rfl, fun w h => List.mem_append_right _ (List.mem_append_right _ (List.mem_append_right _ (List.mem_append_right _ (List.mem_append_right _ (List.mem_append_right _ (List.mem_append_right _ (List.mem_append_right _ (List.mem_append_right _ (List.mem_append_left _ h))))))))), tyX9_ok, nmX9⟩
  | 9, _ => exact ⟨RX10, TX10, 5, tyX10, rfl, rfl, rfl, fun w h => List.mem_append_right _ (List.mem_append_right _ (List.mem_append_right _ (List.mem_append_right _ (List.mem_append_right _ (List.mem_append_right _ (List.mem_append_right _ (List.mem_append_right _ (List.mem_append_right _ (List.mem_append_right _ (List.mem_append_left _ h)))))))))), tyX10_ok, nmX10⟩
  | 10, _ => exact ⟨RX11, TX11, 12, tyX11, rfl, rfl, rfl, fun w h => List.mem_append_right _ (List.mem_append_right _ (List.mem_append_right _ (List.mem_append_right _ (List.mem_append_right _ (List.mem_append_right _ (List.mem_append_right _ (List.mem_append_right _ (List.mem_append_right _ (List.mem_append_right _ (List.mem_append_right _ (List.mem_append_left _ h))))))))))), tyX11_ok, nmX11⟩
  | 11, _ => exact ⟨RX12, TX12, 28, tyX12, rfl, rfl, rfl, fun w h => List.mem_append_right _ (List.mem_append_right _ (List.mem_append_right _ (List.mem_append_right _ (List.mem_append_right _ (List.mem_append_right _ (List.mem_append_right _ (List.mem_append_right _ (List.mem_append_right _ (List.mem_append_right _ (List.mem_append_right _ (List.mem_append_right _ (h)))))))))))), tyX12_ok, nmX12⟩
  | n + 12, h => exact absurd h (by omega)
theorem zWS_good : zWS.all goodWord = true := by
  unfold zWS zWc
  simp only [List.flatten_cons, List.flatten_nil, List.all_append, List.all_nil, Bool.and_true, zW0_good, zW1_good, zW2_good, zW3_good, zW4_good, zW5_good, zW6_good, zW7_good, zW8_good, zW9_good, zW10_good, zW11_good, zW12_good, zW13_good, zW14_good, zW15_good, zW16_good, zW17_good, zW18_good, zW19_good, zW20_good, zW21_good, zW22_good, zW23_good, zW24_good, zW25_good, zW26_good, zW27_good, zW28_good, zW29_good, zW30_good, zW31_good, zW32_good, zW33_good, zW34_good, zW35_good, zW36_good, zW37_good, zW38_good, zW39_good, zW40_good, zW41_good, zW42_good, zW43_good, zW44_good, zW45_good, zW46_good, zW47_good, zW48_good, zW49_good, zW50_good, zW51_good, zW52_good, zW53_good, zW54_good, zW55_good, zW56_good, zW57_good, zW58_good, zW59_good, zW60_good, zW61_good, zW62_good, zW63_good, zW64_good, zW65_good, zW66_good, zW67_good, zW68_good, zW69_good, zW70_good, zW71_good, zW72_good]
theorem zWf_good : zWf.all goodWord = true := by decide +kernel
theorem zTS_good : ∀ w ∈ zTS, (w.onTables && w.keeps) = true ∨ ∃ ty, w = .arrayClass ty := by
  intro w hw
  rcases List.mem_append.mp hw with h | h
  · exact good_of_word (List.all_eq_true.mp zWS_good w h)
  · exact good_of_word (List.all_eq_true.mp zWf_good w h)
theorem zMw {y : Nat} (hy : y < 363) (hn : zOo y ≠ 13) : .code (zY y) (zBy y) (zMx y) (zRt y) ∈ zTS ∧ .initialized (zY y).cls ∈ zTS ∧ zMx y ≤ 30 ∧ (parseMethodDescriptor (zY y).desc).map (fun d => d.parameters.length) = some (zNa y) ∧ plainName (zY y).cls = true ∧ ((zY y).cls ≠ "java/lang/invoke/MethodHandle" ∧ (zY y).cls ≠ "java/lang/invoke/VarHandle") ∧ (zRc y = 99 → .static (zY y) ∈ zTS) ∧ (zRc y < 12 → .instanceMethod (zY y) ∈ zTS ∧ .selects (zY y).cls (zY y) (zY y) ∈ zTS ∧ ∃ q, vwCl[zRc y]? = some q ∧ q.1 = (zY y).cls) ∧ zOwn (zOo y) = (zY y).cls ∧ zNa y ≤ zMx y := by
  rcases zwAll _ (zMt_in hy) with h | h
  · exact absurd h hn
  · exact h
theorem zMwS {y : Nat} (hy : y < 363) (hn : zOo y ≠ 13) (hr : zRc y = 99) : .static (zY y) ∈ zTS := (zMw hy hn).2.2.2.2.2.2.1 hr
theorem zMwV {y : Nat} (hy : y < 363) (hn : zOo y ≠ 13) (hr : zRc y < 12) : .instanceMethod (zY y) ∈ zTS ∧ .selects (zY y).cls (zY y) (zY y) ∈ zTS ∧ ∃ q, vwCl[zRc y]? = some q ∧ q.1 = (zY y).cls := (zMw hy hn).2.2.2.2.2.2.2.1 hr
def zX (E : zE) (U : State) : Prop := ∀ own idx a : Nat, (own, idx, a) ∈ zSs → ∃ tx, vk_R (zOwn own) idx tx (zAd E a) U
def zBi (E : zE) (u : zM) (U : State) : Prop := zB E u U ∧ E.2.2.2 ≤ U.heap.size ∧ zX E U
theorem zX.same {E : zE} {u U : State} (hv : U.vm = u.vm) (h : zX E u) : zX E U := fun o i a q => (h o i a q).imp fun _ z => z.same hv
theorem zX.warm {E : zE} {s U : State} (hW : s.WarmedH U.vm) (h : zX E s) : zX E U := fun o i a q => (h o i a q).imp fun _ z => z.warm hW
set_option maxRecDepth 100000 in
theorem zAr {q d r : Nat} (h : q ≤ 30) (h2 : 64 * d + 664 ≤ r) : 8 + (q + 11) + (64 * d + 600) ≤ r := by omega
section ZC
variable {p : Program} {l : Launch} {e : Env} {R : Room} {s : State} {m : MethodId} {args : Array Value} {below : List Frame} {meth : Method} {c : Code} {H : Heap} {locs : List Loc} {cells slots : Nat} {Z : State → Prop} {cc : ByteArray} {nL : Nat} {E : zE} {own idx y d : Nat} {Q : Option Value → zM → Prop} {u : zM} {pc : Nat} {L : Array Slot} {rest st0 : List Value} {a : Array Value} {H0 : Heap}
theorem zCb (hts : ∀ w ∈ zTS, w.before args s = true) (hin : (own, idx, y) ∈ zMls) (hn : zOo y ≠ 13) (hRf : d + 9 ≤ R.frames) (hRl : 64 * d + 664 ≤ R.locals) : CallB R s args (zOwn own) idx (zY y) (zBy y) (zMx y) (zRt y) (zW y) (zRm d) 0 0 (zNa y) := by
  obtain ⟨hl, hy⟩ := zMls_in hin
  obtain ⟨h1, h2, h3, h4, h5, h6, -⟩ := zMw hy hn
  refine callB_of (ws' := zTS) (zNa y) hts (fun w hw => ?_) rfl rfl rfl (hts _ h2) (hts _ hl) ⟨h6.1, h6.2, h4⟩ ⟨?_, ?_⟩
  · rcases List.mem_cons.mp hw with rfl | hw
    · exact ⟨h1, zTS_good _ h1⟩
    · exact ⟨hw, zTS_good _ hw⟩
  · show d + 8 + 1 ≤ _
    omega
  · show 8 + (zMx y + 11) + (64 * d + 600) ≤ _
    exact zAr h3 hRl
theorem zBlind (as : List Value) : FrameBlind (va_Pc as (zBi E u)) := fun _ U g mk q => ⟨q.1, ⟨va_K.moved (u := U) (U := U.calling g mk _) (Vm.Alike.refl U.vm) q.2.1.1, q.2.1.2⟩, q.2.2.1, zX.same rfl q.2.2.2⟩
theorem zCall_go (hr : va_Run p l e R s m args below meth c H locs cells slots 0 0 (F0 m pc L st0) rest (zQ E Q a) (zA E)) (hS : va_S (zA E) H0 H locs)
    (kk : ∀ (v : Option Value) (u1 : zM) (H1 : Heap) (locs1 : List Loc), zRet v → Q v u1 → zH E u1 H1 → va_S (zA E) H0 H1 locs1 → W p l e R s m args below meth c H1 locs1 cells slots Z (F0 m (pc + 3) L (v.toList ++ rest))) : W p l e R s m args below meth c H locs cells slots Z (F0 m pc L st0) := by
  intro T hT X
  obtain ⟨v, st₀, t, T', L1, h0, X', hL, e1, e2, ⟨⟨w, u1, hv, hz, hq, hb⟩, hF⟩, st⟩ := hr T hT X
  cases hv
  have hsz : H.size ≤ T'.heap.size := by rw [e1, ← h0]; exact hF.1
  have hkp : ∀ q : Nat, q < H.size → ¬ zA E q → T'.heap[q]? = H[q]? := fun q g1 g2 => by rw [e1, ← h0]; exact hF.2 q (by rw [h0]; exact g1) g2
  obtain ⟨t2, a1, b1⟩ := kk v u1 T'.heap (locs ++ L1) hz hq (by rw [e1]; exact hb.2)
    ⟨Nat.le_trans hS.1 hsz, fun q g1 g2 => by rw [hkp q (Nat.lt_of_lt_of_le g1 hS.1) g2]; exact hS.2.1 q g1 g2, fun q hq2 => by
      rcases List.mem_append.mp hq2 with g | g
      · exact hS.2.2 q g
      · exact hL q g⟩ T' rfl X'
  exact ⟨t2, st t2 a1, b1⟩
theorem zRest (r : List Value) (h : r.length ≤ 4) : ((r.map (zCv (zAd E))).map fun v => v.category).sum ≤ 8 := by
  have hc : ∀ v : Value, v.category ≤ 2 := fun v => by cases v <;> simp [Value.category]
  have key : ∀ r : List Value, ((r.map (zCv (zAd E))).map fun v => v.category).sum ≤ 2 * r.length := by
    intro r
    induction r with
    | nil => simp
    | cons a t ih =>
      simp only [List.map_cons, List.sum_cons, List.length_cons]
      have := hc (zCv (zAd E) a)
      omega
  have := key r
  omega
theorem zToL {v : Option Value} (h : zRet v) (r : List Value) : v.toList ++ r.map (zCv (zAd E)) = (v.toList ++ r).map (zCv (zAd E)) := by
  rcases h with rfl | ⟨x, rfl⟩ <;> rfl
theorem zcV (hx : p.tables.exec = Jvm.exec) (hb : c.code = cc) (hml : c.maxLocals = nL) (hown : s.vm.findClass (zOwn own) = some m.cls) (hts : ∀ w ∈ zTS, w.before args s = true) (hK : va_K E.1 vwCl (zTys E) s) (hst : zX E s) (hRf : d + 9 ≤ R.frames) (hRl : 64 * d + 664 ≤ R.locals) (hcs : cells ≤ R.cells ∧ slots ≤ R.slots)
    (hin : (own, idx, y) ∈ zMls) (hn : zOo y ≠ 13) (hk : zRc y < 12) {as r : List Value} {x : Nat} (hM : Met l (zY y) (zW y) (zRm d) (va_Pc ((.ref x :: as).map (zCv (zAd E))) (zBi E u)) (zQ E Q) 0 0 (zA E)) (hs : zShapes[x]? = some (.inl (zRc y))) (hr : r.length ≤ 4) (hlen : as.length = zNa y) (hH : zH E u H) (hS : va_S (zA E) s.heap H locs) (hsz : L.size = nL) (hdg : decode cc pc = .ok (.invokevirtual idx, 3))
    (kk : ∀ (v : Option Value) (u1 : zM) (H1 : Heap) (locs1 : List Loc), zRet v → Q v u1 → zH E u1 H1 → va_S (zA E) s.heap H1 locs1 → W p l e R s m args below meth c H1 locs1 cells slots Z (F0 m (pc + 3) L ((v.toList ++ r).map (zCv (zAd E))))) : W p l e R s m args below meth c H locs cells slots Z (F0 m pc L ((as.reverse ++ .ref x :: r).map (zCv (zAd E)))) := by
  obtain ⟨g1, g2, q, g3, g4⟩ := zMwV (zMls_in hin).2 hn hk
  have cw : CallW R s args (zOwn own) (zY y).cls idx (zY y) (zBy y) (zMx y) (zRt y) (zW y) (zRm d) 0 0 (zNa y) := ⟨zCb hts hin hn hRf hRl, hts _ g1, hts _ g2⟩
  have hrecv := va_recv hK hH.1 (a := zAd E x) (ci := zRc y) (q0 := x) g3 (by rw [zWs_at E u (zSh_lt hs), zCont_o hs])
  rw [g4] at hrecv
  refine zCall_go (va_runV (As := as.map (zCv (zAd E))) (rest := r.map (zCv (zAd E))) (b := zAd E x) ⟨hx, hb, hml, hown, hts⟩ hM cw ⟨zBlind _, hrecv, fun U hU hW => ⟨rfl, ⟨va_K.moved hW.alike hK, by rw [hU]; exact hH⟩, by rw [hU]; exact hH.2.2, hst.warm hW⟩⟩ rfl (by rw [List.length_map]; exact hlen) hsz (by simp [zCv]) (lv_room (zRest r hr)) hdg hcs) hS (fun v u1 H1 locs1 hz hq hH1 hS1 => ?_)
  rw [zToL hz]
  exact kk v u1 H1 locs1 hz hq hH1 hS1
theorem zcS (hx : p.tables.exec = Jvm.exec) (hb : c.code = cc) (hml : c.maxLocals = nL) (hown : s.vm.findClass (zOwn own) = some m.cls) (hts : ∀ w ∈ zTS, w.before args s = true) (hK : va_K E.1 vwCl (zTys E) s) (hst : zX E s) (hRf : d + 9 ≤ R.frames) (hRl : 64 * d + 664 ≤ R.locals) (hcs : cells ≤ R.cells ∧ slots ≤ R.slots)
    (hin : (own, idx, y) ∈ zMls) (hn : zOo y ≠ 13) (hk : zRc y = 99) {as r : List Value} (hM : Met l (zY y) (zW y) (zRm d) (va_Pc (as.map (zCv (zAd E))) (zBi E u)) (zQ E Q) 0 0 (zA E)) (hr : r.length ≤ 4) (hlen : as.length = zNa y) (hH : zH E u H) (hS : va_S (zA E) s.heap H locs) (hsz : L.size = nL) (hdg : decode cc pc = .ok (.invokestatic idx, 3))
    (kk : ∀ (v : Option Value) (u1 : zM) (H1 : Heap) (locs1 : List Loc), zRet v → Q v u1 → zH E u1 H1 → va_S (zA E) s.heap H1 locs1 → W p l e R s m args below meth c H1 locs1 cells slots Z (F0 m (pc + 3) L ((v.toList ++ r).map (zCv (zAd E))))) : W p l e R s m args below meth c H locs cells slots Z (F0 m pc L ((as.reverse ++ r).map (zCv (zAd E)))) := by
  refine zCall_go (va_runS (As := as.map (zCv (zAd E))) (rest := r.map (zCv (zAd E))) ⟨hx, hb, hml, hown, hts⟩ hM ⟨zCb hts hin hn hRf hRl, hts _ (zMwS (zMls_in hin).2 hn hk)⟩ ⟨zBlind _, fun U hU hW => ⟨rfl, ⟨va_K.moved hW.alike hK, by rw [hU]; exact hH⟩, by rw [hU]; exact hH.2.2, hst.warm hW⟩⟩ rfl (by rw [List.length_map]; exact hlen) hsz (by simp) (lv_room (zRest r hr)) hdg hcs) hS (fun v u1 H1 locs1 hz hq hH1 hS1 => ?_)
  rw [zToL hz]
  exact kk v u1 H1 locs1 hz hq hH1 hS1
end ZC
