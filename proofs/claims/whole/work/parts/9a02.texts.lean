/-! the JDK's own methods of a text: length, charAt and what they call -/
theorem jdJ0_length_8abf5_0 : decode cJ0_length_8abf5 0 = .ok (.aload_n 0, 1) := by decide +kernel
theorem jdJ0_length_8abf5_1 : decode cJ0_length_8abf5 1 = .ok (.getfield 9, 3) := by decide +kernel
theorem jdJ0_length_8abf5_4 : decode cJ0_length_8abf5 4 = .ok (.arraylength, 1) := by decide +kernel
theorem jdJ0_length_8abf5_5 : decode cJ0_length_8abf5 5 = .ok (.aload_n 0, 1) := by decide +kernel
theorem jdJ0_length_8abf5_6 : decode cJ0_length_8abf5 6 = .ok (.invokevirtual 335, 3) := by decide +kernel
theorem jdJ0_length_8abf5_9 : decode cJ0_length_8abf5 9 = .ok (.ishr, 1) := by decide +kernel
theorem jdJ0_length_8abf5_10 : decode cJ0_length_8abf5 10 = .ok (.ireturn, 1) := by decide +kernel
theorem jdJ0_charAt_5068e_0 : decode cJ0_charAt_5068e 0 = .ok (.aload_n 0, 1) := by decide +kernel
theorem jdJ0_charAt_5068e_1 : decode cJ0_charAt_5068e 1 = .ok (.invokevirtual 492, 3) := by decide +kernel
theorem jdJ0_charAt_5068e_4 : decode cJ0_charAt_5068e 4 = .ok (.ifCond .eq 12, 3) := by decide +kernel
theorem jdJ0_charAt_5068e_7 : decode cJ0_charAt_5068e 7 = .ok (.aload_n 0, 1) := by decide +kernel
theorem jdJ0_charAt_5068e_8 : decode cJ0_charAt_5068e 8 = .ok (.getfield 9, 3) := by decide +kernel
theorem jdJ0_charAt_5068e_11 : decode cJ0_charAt_5068e 11 = .ok (.iload_n 1, 1) := by decide +kernel
theorem jdJ0_charAt_5068e_12 : decode cJ0_charAt_5068e 12 = .ok (.invokestatic 495, 3) := by decide +kernel
theorem jdJ0_charAt_5068e_15 : decode cJ0_charAt_5068e 15 = .ok (.ireturn, 1) := by decide +kernel
theorem jdJ0_charAt_5068e_16 : decode cJ0_charAt_5068e 16 = .ok (.aload_n 0, 1) := by decide +kernel
theorem jdJ0_charAt_5068e_17 : decode cJ0_charAt_5068e 17 = .ok (.getfield 9, 3) := by decide +kernel
theorem jdJ0_charAt_5068e_20 : decode cJ0_charAt_5068e 20 = .ok (.iload_n 1, 1) := by decide +kernel
theorem jdJ0_charAt_5068e_21 : decode cJ0_charAt_5068e 21 = .ok (.invokestatic 498, 3) := by decide +kernel
theorem jdJ0_charAt_5068e_24 : decode cJ0_charAt_5068e 24 = .ok (.ireturn, 1) := by decide +kernel
theorem jdJ0_coder_7d493_0 : decode cJ0_coder_7d493 0 = .ok (.getstatic 38, 3) := by decide +kernel
theorem jdJ0_coder_7d493_3 : decode cJ0_coder_7d493 3 = .ok (.ifCond .eq 10, 3) := by decide +kernel
theorem jdJ0_coder_7d493_6 : decode cJ0_coder_7d493 6 = .ok (.aload_n 0, 1) := by decide +kernel
theorem jdJ0_coder_7d493_7 : decode cJ0_coder_7d493 7 = .ok (.getfield 15, 3) := by decide +kernel
theorem jdJ0_coder_7d493_10 : decode cJ0_coder_7d493 10 = .ok (.goto 4, 3) := by decide +kernel
theorem jdJ0_coder_7d493_13 : decode cJ0_coder_7d493 13 = .ok (.iconst 1, 1) := by decide +kernel
theorem jdJ0_coder_7d493_14 : decode cJ0_coder_7d493 14 = .ok (.ireturn, 1) := by decide +kernel
theorem jdJ0_isLatin1_aae02_0 : decode cJ0_isLatin1_aae02 0 = .ok (.getstatic 38, 3) := by decide +kernel
theorem jdJ0_isLatin1_aae02_3 : decode cJ0_isLatin1_aae02 3 = .ok (.ifCond .eq 14, 3) := by decide +kernel
theorem jdJ0_isLatin1_aae02_6 : decode cJ0_isLatin1_aae02 6 = .ok (.aload_n 0, 1) := by decide +kernel
theorem jdJ0_isLatin1_aae02_7 : decode cJ0_isLatin1_aae02 7 = .ok (.getfield 15, 3) := by decide +kernel
theorem jdJ0_isLatin1_aae02_10 : decode cJ0_isLatin1_aae02 10 = .ok (.ifCond .ne 7, 3) := by decide +kernel
theorem jdJ0_isLatin1_aae02_13 : decode cJ0_isLatin1_aae02 13 = .ok (.iconst 1, 1) := by decide +kernel
theorem jdJ0_isLatin1_aae02_14 : decode cJ0_isLatin1_aae02 14 = .ok (.goto 4, 3) := by decide +kernel
theorem jdJ0_isLatin1_aae02_17 : decode cJ0_isLatin1_aae02 17 = .ok (.iconst 0, 1) := by decide +kernel
theorem jdJ0_isLatin1_aae02_18 : decode cJ0_isLatin1_aae02 18 = .ok (.ireturn, 1) := by decide +kernel
theorem jdJ0_checkIndex_df160_0 : decode cJ0_checkIndex_df160 0 = .ok (.iload_n 0, 1) := by decide +kernel
theorem jdJ0_checkIndex_df160_1 : decode cJ0_checkIndex_df160 1 = .ok (.iload_n 1, 1) := by decide +kernel
theorem jdJ0_checkIndex_df160_2 : decode cJ0_checkIndex_df160 2 = .ok (.getstatic 1053, 3) := by decide +kernel
theorem jdJ0_checkIndex_df160_5 : decode cJ0_checkIndex_df160 5 = .ok (.invokestatic 1059, 3) := by decide +kernel
theorem jdJ0_checkIndex_df160_8 : decode cJ0_checkIndex_df160 8 = .ok (.pop, 1) := by decide +kernel
theorem jdJ0_checkIndex_df160_9 : decode cJ0_checkIndex_df160 9 = .ok (.return_, 1) := by decide +kernel
theorem jdJ1_charAt_3b067_0 : decode cJ1_charAt_3b067 0 = .ok (.iload_n 1, 1) := by decide +kernel
theorem jdJ1_charAt_3b067_1 : decode cJ1_charAt_3b067 1 = .ok (.aload_n 0, 1) := by decide +kernel
theorem jdJ1_charAt_3b067_2 : decode cJ1_charAt_3b067 2 = .ok (.arraylength, 1) := by decide +kernel
theorem jdJ1_charAt_3b067_3 : decode cJ1_charAt_3b067 3 = .ok (.invokestatic 9, 3) := by decide +kernel
theorem jdJ1_charAt_3b067_6 : decode cJ1_charAt_3b067 6 = .ok (.aload_n 0, 1) := by decide +kernel
theorem jdJ1_charAt_3b067_7 : decode cJ1_charAt_3b067 7 = .ok (.iload_n 1, 1) := by decide +kernel
theorem jdJ1_charAt_3b067_8 : decode cJ1_charAt_3b067 8 = .ok (.baload, 1) := by decide +kernel
theorem jdJ1_charAt_3b067_9 : decode cJ1_charAt_3b067 9 = .ok (.sipush 255, 3) := by decide +kernel
theorem jdJ1_charAt_3b067_12 : decode cJ1_charAt_3b067 12 = .ok (.iand, 1) := by decide +kernel
theorem jdJ1_charAt_3b067_13 : decode cJ1_charAt_3b067 13 = .ok (.i2c, 1) := by decide +kernel
theorem jdJ1_charAt_3b067_14 : decode cJ1_charAt_3b067 14 = .ok (.ireturn, 1) := by decide +kernel
theorem jdJ3_checkIndex_8e157_0 : decode cJ3_checkIndex_8e157 0 = .ok (.iload_n 0, 1) := by decide +kernel
theorem jdJ3_checkIndex_8e157_1 : decode cJ3_checkIndex_8e157 1 = .ok (.ifCond .lt 8, 3) := by decide +kernel
theorem jdJ3_checkIndex_8e157_4 : decode cJ3_checkIndex_8e157 4 = .ok (.iload_n 0, 1) := by decide +kernel
theorem jdJ3_checkIndex_8e157_5 : decode cJ3_checkIndex_8e157 5 = .ok (.iload_n 1, 1) := by decide +kernel
theorem jdJ3_checkIndex_8e157_6 : decode cJ3_checkIndex_8e157 6 = .ok (.if_icmp .lt 10, 3) := by decide +kernel
theorem jdJ3_checkIndex_8e157_9 : decode cJ3_checkIndex_8e157 9 = .ok (.aload_n 2, 1) := by decide +kernel
theorem jdJ3_checkIndex_8e157_10 : decode cJ3_checkIndex_8e157 10 = .ok (.iload_n 0, 1) := by decide +kernel
theorem jdJ3_checkIndex_8e157_11 : decode cJ3_checkIndex_8e157 11 = .ok (.iload_n 1, 1) := by decide +kernel
theorem jdJ3_checkIndex_8e157_12 : decode cJ3_checkIndex_8e157 12 = .ok (.invokestatic 95, 3) := by decide +kernel
theorem jdJ3_checkIndex_8e157_15 : decode cJ3_checkIndex_8e157 15 = .ok (.athrow, 1) := by decide +kernel
theorem jdJ3_checkIndex_8e157_16 : decode cJ3_checkIndex_8e157 16 = .ok (.iload_n 0, 1) := by decide +kernel
theorem jdJ3_checkIndex_8e157_17 : decode cJ3_checkIndex_8e157 17 = .ok (.ireturn, 1) := by decide +kernel
def jRm (k : Nat) : Room := { frames := k, cells := 0, slots := 0, locals := 40 * k }
def jW (y : MethodName) (cc : ByteArray) (mx : Nat) (ret : Option FieldType) : List Jvm.Cond := .code y cc mx ret :: zTS
def jOk (own : String) (idx : Nat) (y : MethodName) (cc : ByteArray) (mx : Nat) (ret : Option FieldType) (n : Nat) : Prop := .methodLink own idx y ∈ zTS ∧ .code y cc mx ret ∈ zTS ∧ .initialized y.cls ∈ zTS ∧ (y.cls ≠ "java/lang/invoke/MethodHandle" ∧ y.cls ≠ "java/lang/invoke/VarHandle" ∧ (parseMethodDescriptor y.desc).map (fun d => d.parameters.length) = some n) ∧ mx ≤ 3
/-- what a call of the JDK's must give: v, and the world as it was -/
def jMet (l : Launch) (n : Nat) (bb : Bool) (E : zE) (y : MethodName) (cc : ByteArray) (mx : Nat) (ret : Option FieldType) (k : Nat) (u : zM) (as : List Value) (V : Option Value → Prop) : Prop := Met l y (jW y cc mx ret) (jRm k) (va_Pc as (yBi n bb E u)) (yQ n E (fun v u1 => V v ∧ u1 = u)) 0 0 (zA E)
section JC
variable {p : Program} {l : Launch} {e : Env} {R : Room} {s : State} {m : MethodId} {args : Array Value} {below : List Frame} {meth : Method} {c : Code} {H : Heap} {locs : List Loc} {cells slots : Nat} {Z : State → Prop} {cc bytes : ByteArray} {nL n mx k na : Nat} {E : zE} {own : String} {idx : Nat} {bb : Bool} {y : MethodName} {ret : Option FieldType} {V : Option Value → Prop} {u : zM} {pc : Nat} {L : Array Slot} {as r : List Value} {b : Nat}
theorem jCb (ho : jOk own idx y bytes mx ret na) (hts : ∀ w ∈ zTS, w.before args s = true) (hRf : k + 1 ≤ R.frames) (hRl : 40 * k + 40 ≤ R.locals) : CallB R s args own idx y bytes mx ret (jW y bytes mx ret) (jRm k) 0 0 na := by
  obtain ⟨hl, hc, hi, hd, hmx⟩ := ho
  refine callB_of (ws' := zTS) na hts (fun w hw => ?_) rfl rfl rfl (hts _ hi) (hts _ hl) hd ⟨?_, ?_⟩
  · rcases List.mem_cons.mp hw with rfl | hw
    · exact ⟨hc, zTS_good _ hc⟩
    · exact ⟨hw, zTS_good _ hw⟩
  · show k + 1 ≤ _
    exact hRf
  · show 8 + (mx + 11) + 40 * k ≤ _
    omega
theorem jcS (hx : p.tables.exec = Jvm.exec) (hb : c.code = cc) (hml : c.maxLocals = nL) (hown : s.vm.findClass own = some m.cls) (hts : ∀ w ∈ zTS, w.before args s = true) (hK : va_K E.1 vwCl (zTys E) s) (hst : yX bb E s s.heap) (hRf : k + 1 ≤ R.frames) (hRl : 40 * k + 40 ≤ R.locals) (hcs : cells ≤ R.cells ∧ slots ≤ R.slots)
    (ho : jOk own idx y bytes mx ret na) (hs : .static y ∈ zTS) (hM : jMet l n bb E y bytes mx ret k u as V) (hr : (r.map fun v => v.category).sum ≤ 8) (hlen : as.length = na) (hH : yH n E u H) (hS : va_S (zA E) s.heap H locs) (hsz : L.size = nL) (hdg : decode cc pc = .ok (.invokestatic idx, 3))
    {st0 : List Value} (hst0 : st0 = as.reverse ++ r)
    (kk : ∀ (v : Option Value) (H1 : Heap) (locs1 : List Loc), V v → yH n E u H1 → va_S (zA E) s.heap H1 locs1 → W p l e R s m args below meth c H1 locs1 cells slots Z (F0 m (pc + 3) L (v.toList ++ r))) : W p l e R s m args below meth c H locs cells slots Z (F0 m pc L st0) := by
  subst hst0
  refine yCall_go (va_runS (As := as) (rest := r) ⟨hx, hb, hml, hown, hts⟩ hM ⟨jCb ho hts hRf hRl, hts _ hs⟩ ⟨yBlind n bb _, fun U hU hW => ⟨rfl, ⟨va_K.moved hW.alike hK, by rw [hU]; exact hH⟩, by rw [hU]; exact hH.2.2, hst.warm hW (by rw [hU]; exact hS.2.1)⟩⟩ rfl hlen hsz rfl (lv_room hr) hdg hcs) hS (fun v u1 H1 locs1 hz hq hH1 hS1 => ?_)
  obtain ⟨hv, rfl⟩ := hq
  exact kk v H1 locs1 hv hH1 hS1
theorem jcV (hx : p.tables.exec = Jvm.exec) (hb : c.code = cc) (hml : c.maxLocals = nL) (hown : s.vm.findClass own = some m.cls) (hts : ∀ w ∈ zTS, w.before args s = true) (hK : va_K E.1 vwCl (zTys E) s) (hst : yX bb E s s.heap) (hRf : k + 1 ≤ R.frames) (hRl : 40 * k + 40 ≤ R.locals) (hcs : cells ≤ R.cells ∧ slots ≤ R.slots)
    (ho : jOk own idx y bytes mx ret na) (hi : .instanceMethod y ∈ zTS) (hse : .selects y.cls y y ∈ zTS) (hb0 : va_O y.cls b (zA E) s s.heap) (hM : jMet l n bb E y bytes mx ret k u (.ref b :: as) V) (hr : (r.map fun v => v.category).sum ≤ 8) (hlen : as.length = na) (hH : yH n E u H) (hS : va_S (zA E) s.heap H locs) (hsz : L.size = nL) (hdg : decode cc pc = .ok (.invokevirtual idx, 3))
    {st0 : List Value} (hst0 : st0 = as.reverse ++ .ref b :: r)
    (kk : ∀ (v : Option Value) (H1 : Heap) (locs1 : List Loc), V v → yH n E u H1 → va_S (zA E) s.heap H1 locs1 → W p l e R s m args below meth c H1 locs1 cells slots Z (F0 m (pc + 3) L (v.toList ++ r))) : W p l e R s m args below meth c H locs cells slots Z (F0 m pc L st0) := by
  subst hst0
  obtain ⟨cell, h1, h2, h3, -⟩ := hb0.kept hS.2.1
  refine yCall_go (va_runV (C := y.cls) (As := as) (rest := r) (b := b) ⟨hx, hb, hml, hown, hts⟩ hM ⟨jCb ho hts hRf hRl, hts _ hi, hts _ hse⟩ ⟨yBlind n bb _, ⟨cell, h1, h2, h3⟩, fun U hU hW => ⟨rfl, ⟨va_K.moved hW.alike hK, by rw [hU]; exact hH⟩, by rw [hU]; exact hH.2.2, hst.warm hW (by rw [hU]; exact hS.2.1)⟩⟩ rfl hlen hsz rfl (lv_room hr) hdg hcs) hS (fun v u1 H1 locs1 hz hq hH1 hS1 => ?_)
  obtain ⟨hv, rfl⟩ := hq
  exact kk v H1 locs1 hv hH1 hS1
/-- a body of the JDK's: its frame, its words -/
theorem jBody (hy : plainName y.cls = true) (hlen : (as.all fun v => v.category == 1) = true) (hmx : as.length ≤ mx)
    (body : ∀ (p : Program) (e : Env) (s : State) (m : MethodId) (args : Array Value) (below : List Frame) (meth : Method) (c : Code) (L : Array Slot), p.tables.exec = Jvm.exec → c.code = bytes → c.maxLocals = mx → s.vm.findClass y.cls = some m.cls → (∀ w ∈ zTS, w.before args s = true) → va_K E.1 vwCl (zTys E) s → yX bb E s s.heap → meth.locks = false → meth.sig.returnType = ret → yH n E u s.heap → L.size = mx → (∀ (i : Nat) (v : Value), (i, v) ∈ lv_args 0 as → L[i]? = some (.val v)) →
      W p l e (jRm k) s m args below meth c s.heap [] 0 0 (MQ below (yQ n E (fun v u1 => V v ∧ u1 = u)) args s 0 0 (zA E)) (F0 m 0 L [])) : jMet l n bb E y bytes mx ret k u as V := by
  refine Met.ofW (cc := bytes) (maxL := mx) (ret := ret) hy rfl ?_
  intro p e s m args below meth c s₁ B hml hv
  obtain ⟨rfl, hB, hbase, hst⟩ := hv
  have hts0 := atoms_spec (ws := jW y bytes mx ret) B.pre
  have hl := lv_entry as (n := mx) (by rw [zSl_len _ hlen]; exact hmx)
  rw [lg_entry_eq]
  generalize (lg_sl as ++ List.replicate (mx - (lg_sl as).length) Slot.unset).toArray = ls at hl ⊢
  exact body p e s m _ below meth c ls B.exec B.bytes hml (findClass_of_methodNamed B.named) (fun w hw => hts0 w (List.mem_cons_of_mem _ hw)) hB.1 hst B.notSynchronized B.returns hB.2 hl.1 (fun i v h => hl.2.2 (i, v) h)
theorem jEnd (hK : va_K E.1 vwCl (zTys E) s) (hH : yH n E u H) (hS : va_S (zA E) s.heap H locs) {x : Int32} (hv : V (some (.int x))) : ∀ t : State, t.heap = H → s.WarmedH t.vm → yQ n E (fun v u1 => V v ∧ u1 = u) args s (.returned (some (.int x))) t := fun t ht hW => ⟨⟨some (.int x), u, rfl, Or.inr ⟨x, rfl⟩, ⟨hv, rfl⟩, va_K.moved hW.alike hK, by rw [ht]; exact hH⟩, hS.F ht⟩
theorem jEndV (hK : va_K E.1 vwCl (zTys E) s) (hH : yH n E u H) (hS : va_S (zA E) s.heap H locs) (hv : V none) : ∀ t : State, t.heap = H → s.WarmedH t.vm → yQ n E (fun v u1 => V v ∧ u1 = u) args s (.returned none) t := fun t ht hW => ⟨⟨none, u, rfl, Or.inl rfl, ⟨hv, rfl⟩, va_K.moved hW.alike hK, by rw [ht]; exact hH⟩, hS.F ht⟩
end JC
section JM
variable {l : Launch} {n : Nat} {bb : Bool} {E : zE} {u : zM}
theorem jStr {s : State} {x : Nat} (hst : yX bb E s s.heap) (hx : zStr x) : va_O "java/lang/String" (zAd E x) (zA E) s s.heap ∧ va_OF "java/lang/String" "coder" "B" (.int 0) (zAd E x) (zA E) s s.heap ∧ va_OF "java/lang/String" "value" "[B" (.ref (zAd E (x + 1000))) (zAd E x) (zA E) s s.heap ∧ va_T .byte (zAd E (x + 1000)) (zTn (x - 2000)) (fun j => .int ((zTxt.getD (x - 2000) []).getD j 0)) (zA E) s s.heap := hst.2.2.1 x hx
theorem m_coder {x : Nat} (hs : zStr x) : jMet l n bb E yJ0_coder_7d493 cJ0_coder_7d493 1 (some .byte) 1 u [.ref (zAd E x)] (fun v => v = some (.int 0)) := by
  refine jBody (by decide +kernel) rfl (by simp) (fun p e s m args below meth c L hx hb hml hown hts hK hst hlk hrt hH hsz hL => ?_)
  obtain ⟨o1, o2, o3, o4⟩ := jStr hst hs
  refine va_gets hx hb hst.2.2.2.1 va_S.rf hown (hts _ (List.mem_append_left _ (zWq_in (q := 289) (by decide +kernel)))) (fun _ q => q) jdJ0_coder_7d493_0 ?_
  refine lv_if_eq (tgt := 13) hx hb jdJ0_coder_7d493_3 rfl (fun h => absurd h (by decide)) (fun _ => ?_)
  refine lv_aload_n (i := 0) hx hb jdJ0_coder_7d493_6 rfl (show L[0]? = some (.val (.ref (zAd E x))) from hL _ _ (by simp [lv_args, Value.category])) ?_
  refine vk_getf hx hb o2 va_S.rf hown (hts _ (List.mem_append_left _ (zWq_in (q := 290) (by decide +kernel)))) (fun _ q => q) jdJ0_coder_7d493_7 ?_
  refine lv_goto (tgt := 14) hx hb jdJ0_coder_7d493_10 rfl ?_
  exact W.zret (v := 0) hx hb hrt rfl (jEnd hK hH va_S.rf (by rfl)) (va_S.rf (A := zA E) (H0 := s.heap)).2.2 jdJ0_coder_7d493_14 hlk
theorem m_latin {x : Nat} (hs : zStr x) : jMet l n bb E yJ0_isLatin1_aae02 cJ0_isLatin1_aae02 1 (some .boolean) 1 u [.ref (zAd E x)] (fun v => v = some (.int 1)) := by
  refine jBody (by decide +kernel) rfl (by simp) (fun p e s m args below meth c L hx hb hml hown hts hK hst hlk hrt hH hsz hL => ?_)
  obtain ⟨o1, o2, o3, o4⟩ := jStr hst hs
  refine va_gets hx hb hst.2.2.2.1 va_S.rf hown (hts _ (List.mem_append_left _ (zWq_in (q := 289) (by decide +kernel)))) (fun _ q => q) jdJ0_isLatin1_aae02_0 ?_
  refine lv_if_eq (tgt := 17) hx hb jdJ0_isLatin1_aae02_3 rfl (fun h => absurd h (by decide)) (fun _ => ?_)
  refine lv_aload_n (i := 0) hx hb jdJ0_isLatin1_aae02_6 rfl (show L[0]? = some (.val (.ref (zAd E x))) from hL _ _ (by simp [lv_args, Value.category])) ?_
  refine vk_getf hx hb o2 va_S.rf hown (hts _ (List.mem_append_left _ (zWq_in (q := 290) (by decide +kernel)))) (fun _ q => q) jdJ0_isLatin1_aae02_7 ?_
  refine lv_if_ne (tgt := 17) hx hb jdJ0_isLatin1_aae02_10 rfl (fun h => absurd rfl h) (fun _ => ?_)
  refine lv_iconst hx hb jdJ0_isLatin1_aae02_13 rfl ?_
  refine lv_goto (tgt := 18) hx hb jdJ0_isLatin1_aae02_14 rfl ?_
  exact W.zret (v := 1) hx hb hrt rfl (jEnd hK hH va_S.rf (by rfl)) (va_S.rf (A := zA E) (H0 := s.heap)).2.2 jdJ0_isLatin1_aae02_18 hlk
theorem m_check3 {a b : Int32} {v : Value} (hv : v.category = 1) (ha : ¬ a < 0) (hab : a < b) : jMet l n bb E yJ3_checkIndex_8e157 cJ3_checkIndex_8e157 3 (some .int) 1 u [.int a, .int b, v] (fun w => w = some (.int a)) := by
  refine jBody (by decide +kernel) (by simp only [List.all_cons, List.all_nil, hv]; rfl) (by simp) (fun p e s m args below meth c L hx hb hml hown hts hK hst hlk hrt hH hsz hL => ?_)
  have h0 : L[0]? = some (.val (.int a)) := hL _ _ (by simp [lv_args, Value.category])
  have h1 : L[1]? = some (.val (.int b)) := hL _ _ (by simp [lv_args, Value.category])
  refine lv_iload_n (i := 0) hx hb jdJ3_checkIndex_8e157_0 rfl h0 ?_
  refine lv_if_lt (tgt := 9) hx hb jdJ3_checkIndex_8e157_1 rfl (fun h => absurd h ha) (fun _ => ?_)
  refine lv_iload_n (i := 0) hx hb jdJ3_checkIndex_8e157_4 rfl h0 ?_
  refine lv_iload_n (i := 1) hx hb jdJ3_checkIndex_8e157_5 rfl h1 ?_
  refine lv_icmp_lt (tgt := 16) hx hb jdJ3_checkIndex_8e157_6 rfl (fun _ => ?_) (fun h => absurd hab h)
  refine lv_iload_n (i := 0) hx hb jdJ3_checkIndex_8e157_16 rfl h0 ?_
  exact W.iret hx hb hrt (jEnd hK hH va_S.rf (by rfl)) (va_S.rf (A := zA E) (H0 := s.heap)).2.2 jdJ3_checkIndex_8e157_17 hlk
theorem o_check3 : jOk RJ0 1059 yJ3_checkIndex_8e157 cJ3_checkIndex_8e157 3 (some .int) 3 := ⟨(List.mem_append_left _ (zWq_in (q := 307) (by decide +kernel))), (List.mem_append_left _ (zWq_in (q := 310) (by decide +kernel))), (List.mem_append_left _ (zWq_in (q := 309) (by decide +kernel))), by decide +kernel, by decide⟩
theorem m_check0 {a b : Int32} (ha : ¬ a < 0) (hab : a < b) : jMet l n bb E yJ0_checkIndex_df160 cJ0_checkIndex_df160 2 none 2 u [.int a, .int b] (fun w => w = none) := by
  refine jBody (by decide +kernel) rfl (by simp) (fun p e s m args below meth c L hx hb hml hown hts hK hst hlk hrt hH hsz hL => ?_)
  have h0 : L[0]? = some (.val (.int a)) := hL _ _ (by simp [lv_args, Value.category])
  have h1 : L[1]? = some (.val (.int b)) := hL _ _ (by simp [lv_args, Value.category])
  refine lv_iload_n (i := 0) hx hb jdJ0_checkIndex_df160_0 rfl h0 ?_
  refine lv_iload_n (i := 1) hx hb jdJ0_checkIndex_df160_1 rfl h1 ?_
  have key : ∀ v : Value, v.category = 1 → va_Z "jdk/internal/util/Preconditions" "SIOOBE_FORMATTER" "Ljava/util/function/BiFunction;" v (zA E) s s.heap → W p l e (jRm 2) s m args below meth c s.heap [] 0 0 (MQ below (yQ n E (fun v u1 => v = none ∧ u1 = u)) args s 0 0 (zA E)) (F0 m 2 L [.int b, .int a]) := by
    intro v hv hZ
    refine va_gets hx hb hZ va_S.rf hown (hts _ (List.mem_append_left _ (zWq_in (q := 306) (by decide +kernel)))) (fun _ q => q) jdJ0_checkIndex_df160_2 ?_
    refine jcS (k := 1) (u := u) (n := n) (r := []) hx hb hml hown hts hK hst (by decide) (by decide) ⟨Nat.zero_le _, Nat.zero_le _⟩ o_check3 (List.mem_append_left _ (zWq_in (q := 308) (by decide +kernel))) (m_check3 hv ha hab) (by decide) rfl hH va_S.rf hsz jdJ0_checkIndex_df160_5 rfl (fun w H1 locs1 hw hH1 hS1 => ?_)
    subst hw
    refine lv_pop hx hb jdJ0_checkIndex_df160_8 rfl ?_
    exact W.vret hx hb hrt (jEndV hK hH1 hS1 (by rfl)) hS1.2.2 jdJ0_checkIndex_df160_9 hlk
  rcases hst.2.2.2.2.1 with h | ⟨t, h⟩
  · exact key _ rfl h
  · exact key _ rfl h
theorem o_check0 : jOk RJ1 9 yJ0_checkIndex_df160 cJ0_checkIndex_df160 2 none 2 := ⟨(List.mem_append_left _ (zWq_in (q := 303) (by decide +kernel))), (List.mem_append_left _ (zWq_in (q := 305) (by decide +kernel))), (List.mem_append_left _ (zWq_in (q := 282) (by decide +kernel))), by decide +kernel, by decide⟩
theorem jTxt_ok : (List.range 33).all (fun i => zTl i >>> (0 &&& 31) == zTl i && (Int32.ofNat (zTn i) == zTl i) && (zTxt.getD i []).all (fun w => (w &&& 255) == w && (w.toUInt32 % 65536).toInt32 == w && (narrow .char (.int w) == .int w))) = true := by decide +kernel
theorem jTxt {x : Nat} (hs : zStr x) : zTl (x - 2000) >>> (0 &&& 31) = zTl (x - 2000) ∧ Int32.ofNat (zTn (x - 2000)) = zTl (x - 2000) ∧ ∀ w ∈ zTxt.getD (x - 2000) [], (w &&& 255) = w ∧ (w.toUInt32 % 65536).toInt32 = w ∧ narrow .char (.int w) = .int w := by
  have h := List.all_eq_true.mp jTxt_ok (x - 2000) (List.mem_range.mpr (by have := hs.1; have := hs.2; omega))
  simp only [Bool.and_eq_true, beq_iff_eq, List.all_eq_true] at h
  exact ⟨h.1.1, h.1.2, fun w hw => ⟨(h.2 w hw).1.1, (h.2 w hw).1.2, (h.2 w hw).2⟩⟩
theorem jCh {x : Nat} {y : Int32} (h : vp_in y (zTn (x - 2000))) : zTc (x - 2000) y ∈ zTxt.getD (x - 2000) [] := by
  have h2 : y.toNatClampNeg < (zTxt.getD (x - 2000) []).length := by
    have : ¬ zTn (x - 2000) ≤ y.toNatClampNeg := fun q => h (Or.inr q)
    unfold zTn at this
    omega
  unfold zTc
  rw [List.getD_eq_getElem?_getD (i := y.toNatClampNeg), List.getElem?_eq_getElem h2]
  exact List.getElem_mem h2
theorem jLt {y : Int32} {x : Nat} (hs : zStr x) (h : vp_in y (zTn (x - 2000))) : y < zTl (x - 2000) := by
  have h1 : ¬ y < 0 := fun q => h (Or.inl q)
  have h2 : ¬ zTn (x - 2000) ≤ y.toNatClampNeg := fun q => h (Or.inr q)
  have hb : zTn (x - 2000) < 100 := by
    have := List.all_eq_true.mp (show (List.range 33).all (fun i => decide (zTn i < 100)) = true by decide +kernel) (x - 2000) (List.mem_range.mpr (by have := hs.1; have := hs.2; omega))
    simpa using this
  have e1 : (zTl (x - 2000)).toInt = (zTn (x - 2000) : Int) := Int32.toInt_ofNat_of_lt (by omega)
  rw [Int32.lt_iff_toInt_lt] at h1 ⊢
  have e2 : (0 : Int32).toInt = 0 := rfl
  have e3 : y.toNatClampNeg = y.toInt.toNat := rfl
  rw [e1]
  omega
theorem m_char1 {x : Nat} {y : Int32} (hs : zStr x) (hy : vp_in y (zTn (x - 2000))) : jMet l n bb E yJ1_charAt_3b067 cJ1_charAt_3b067 2 (some .char) 3 u [.ref (zAd E (x + 1000)), .int y] (fun w => w = some (.int (zTc (x - 2000) y))) := by
  obtain ⟨t1, t2, t3⟩ := jTxt hs
  obtain ⟨c1, c2, c3⟩ := t3 _ (jCh hy)
  refine jBody (by decide +kernel) rfl (by simp) (fun p e s m args below meth c L hx hb hml hown hts hK hst hlk hrt hH hsz hL => ?_)
  have h0 : L[0]? = some (.val (.ref (zAd E (x + 1000)))) := hL _ _ (by simp [lv_args, Value.category])
  have h1 : L[1]? = some (.val (.int y)) := hL _ _ (by simp [lv_args, Value.category])
  obtain ⟨o1, o2, o3, o4⟩ := jStr hst hs
  refine lv_iload_n (i := 1) hx hb jdJ1_charAt_3b067_0 rfl h1 ?_
  refine lv_aload_n (i := 0) hx hb jdJ1_charAt_3b067_1 rfl h0 ?_
  refine va_tlen hx hb o4 va_S.rf t2 jdJ1_charAt_3b067_2 ?_
  refine jcS (k := 2) (u := u) (n := n) (r := []) hx hb hml hown hts hK hst (by decide) (by decide) ⟨Nat.zero_le _, Nat.zero_le _⟩ o_check0 (List.mem_append_left _ (zWq_in (q := 304) (by decide +kernel))) (m_check0 (fun q => hy (Or.inl q)) (jLt hs hy)) (by decide) rfl hH va_S.rf hsz jdJ1_charAt_3b067_3 rfl (fun w H1 locs1 hw hH1 hS1 => ?_)
  subst hw
  refine lv_aload_n (i := 0) hx hb jdJ1_charAt_3b067_6 rfl h0 ?_
  refine lv_iload_n (i := 1) hx hb jdJ1_charAt_3b067_7 rfl h1 ?_
  refine va_tb hx hb o4 hS1 hy (v := .int (zTc (x - 2000) y)) rfl jdJ1_charAt_3b067_8 ?_
  refine lv_sipush (v := 255) hx hb jdJ1_charAt_3b067_9 rfl ?_
  refine lv_iand hx hb jdJ1_charAt_3b067_12 ?_
  rw [c1]
  refine lv_i2c hx hb jdJ1_charAt_3b067_13 c2 ?_
  exact W.zret hx hb hrt c3 (jEnd hK hH1 hS1 (by rfl)) hS1.2.2 jdJ1_charAt_3b067_14 hlk
theorem o_coder : jOk RJ0 335 yJ0_coder_7d493 cJ0_coder_7d493 1 (some .byte) 0 := ⟨(List.mem_append_left _ (zWq_in (q := 285) (by decide +kernel))), (List.mem_append_left _ (zWq_in (q := 288) (by decide +kernel))), (List.mem_append_left _ (zWq_in (q := 282) (by decide +kernel))), by decide +kernel, by decide⟩
theorem o_latin : jOk RJ0 492 yJ0_isLatin1_aae02 cJ0_isLatin1_aae02 1 (some .boolean) 0 := ⟨(List.mem_append_left _ (zWq_in (q := 295) (by decide +kernel))), (List.mem_append_left _ (zWq_in (q := 298) (by decide +kernel))), (List.mem_append_left _ (zWq_in (q := 282) (by decide +kernel))), by decide +kernel, by decide⟩
theorem o_char1 : jOk RJ0 495 yJ1_charAt_3b067 cJ1_charAt_3b067 2 (some .char) 2 := ⟨(List.mem_append_left _ (zWq_in (q := 299) (by decide +kernel))), (List.mem_append_left _ (zWq_in (q := 302) (by decide +kernel))), (List.mem_append_left _ (zWq_in (q := 301) (by decide +kernel))), by decide +kernel, by decide⟩
theorem m_length {x : Nat} (hs : zStr x) : jMet l n bb E yJ0_length_8abf5 cJ0_length_8abf5 1 (some .int) 2 u [.ref (zAd E x)] (fun w => w = some (.int (zTl (x - 2000)))) := by
  obtain ⟨t1, t2, t3⟩ := jTxt hs
  refine jBody (by decide +kernel) rfl (by simp) (fun p e s m args below meth c L hx hb hml hown hts hK hst hlk hrt hH hsz hL => ?_)
  have h0 : L[0]? = some (.val (.ref (zAd E x))) := hL _ _ (by simp [lv_args, Value.category])
  obtain ⟨o1, o2, o3, o4⟩ := jStr hst hs
  refine lv_aload_n (i := 0) hx hb jdJ0_length_8abf5_0 rfl h0 ?_
  refine vk_getf hx hb o3 va_S.rf hown (hts _ (List.mem_append_left _ (zWq_in (q := 284) (by decide +kernel)))) (fun _ q => q) jdJ0_length_8abf5_1 ?_
  refine va_tlen hx hb o4 va_S.rf t2 jdJ0_length_8abf5_4 ?_
  refine lv_aload_n (i := 0) hx hb jdJ0_length_8abf5_5 rfl h0 ?_
  refine jcV (k := 1) (u := u) (n := n) (as := []) (r := [.int (zTl (x - 2000))]) hx hb hml hown hts hK hst (by decide) (by decide) ⟨Nat.zero_le _, Nat.zero_le _⟩ o_coder (List.mem_append_left _ (zWq_in (q := 286) (by decide +kernel))) (List.mem_append_left _ (zWq_in (q := 287) (by decide +kernel))) o1 (m_coder hs) (by simp [Value.category]) rfl hH va_S.rf hsz jdJ0_length_8abf5_6 rfl (fun w H1 locs1 hw hH1 hS1 => ?_)
  subst hw
  refine lv_ishr hx hb jdJ0_length_8abf5_9 ?_
  rw [t1]
  exact W.iret hx hb hrt (jEnd hK hH1 hS1 (by rfl)) hS1.2.2 jdJ0_length_8abf5_10 hlk
theorem m_char {x : Nat} {y : Int32} (hs : zStr x) (hy : vp_in y (zTn (x - 2000))) : jMet l n bb E yJ0_charAt_5068e cJ0_charAt_5068e 2 (some .char) 4 u [.ref (zAd E x), .int y] (fun w => w = some (.int (zTc (x - 2000) y))) := by
  obtain ⟨t1, t2, t3⟩ := jTxt hs
  obtain ⟨c1, c2, c3⟩ := t3 _ (jCh hy)
  refine jBody (by decide +kernel) rfl (by simp) (fun p e s m args below meth c L hx hb hml hown hts hK hst hlk hrt hH hsz hL => ?_)
  have h0 : L[0]? = some (.val (.ref (zAd E x))) := hL _ _ (by simp [lv_args, Value.category])
  have h1 : L[1]? = some (.val (.int y)) := hL _ _ (by simp [lv_args, Value.category])
  obtain ⟨o1, o2, o3, o4⟩ := jStr hst hs
  refine lv_aload_n (i := 0) hx hb jdJ0_charAt_5068e_0 rfl h0 ?_
  refine jcV (k := 1) (u := u) (n := n) (as := []) (r := []) hx hb hml hown hts hK hst (by decide) (by decide) ⟨Nat.zero_le _, Nat.zero_le _⟩ o_latin (List.mem_append_left _ (zWq_in (q := 296) (by decide +kernel))) (List.mem_append_left _ (zWq_in (q := 297) (by decide +kernel))) o1 (m_latin hs) (by simp) rfl hH va_S.rf hsz jdJ0_charAt_5068e_1 rfl (fun w H1 locs1 hw hH1 hS1 => ?_)
  subst hw
  refine lv_if_eq (tgt := 16) hx hb jdJ0_charAt_5068e_4 rfl (fun h => absurd h (by decide)) (fun _ => ?_)
  refine lv_aload_n (i := 0) hx hb jdJ0_charAt_5068e_7 rfl h0 ?_
  refine vk_getf hx hb o3 hS1 hown (hts _ (List.mem_append_left _ (zWq_in (q := 284) (by decide +kernel)))) (fun _ q => q) jdJ0_charAt_5068e_8 ?_
  refine lv_iload_n (i := 1) hx hb jdJ0_charAt_5068e_11 rfl h1 ?_
  refine jcS (k := 3) (u := u) (n := n) (r := []) hx hb hml hown hts hK hst (by decide) (by decide) ⟨Nat.zero_le _, Nat.zero_le _⟩ o_char1 (List.mem_append_left _ (zWq_in (q := 300) (by decide +kernel))) (m_char1 hs hy) (by decide) rfl hH1 hS1 hsz jdJ0_charAt_5068e_12 rfl (fun w H2 locs2 hw hH2 hS2 => ?_)
  subst hw
  exact W.zret hx hb hrt c3 (jEnd hK hH2 hS2 (by rfl)) hS2.2.2 jdJ0_charAt_5068e_15 hlk
end JM
