/-! the law's wrappers: a call of the class, its answer into out, or the number of what it throws -/
def yCt : List (Nat × Int32) := [(13, 1), (24, 2), (62, 3), (15, 4), (26, 5)]
theorem yCt_ok : ∀ t ∈ yCt, t.1 ≠ 0 ∧ ∃ ex ∈ yExs, ex.1 = t.2 ∧ Jvm.Cond.classLink RL t.1 ex.2.1 ∈ zTS := by
  intro t ht
  rcases List.mem_cons.mp ht with rfl | ht
  · exact ⟨by decide, _, List.getElem_mem (n := 0) (by decide), rfl, List.mem_append_left _ (zWq_in (q := 188) (by decide +kernel))⟩
  rcases List.mem_cons.mp ht with rfl | ht
  · exact ⟨by decide, _, List.getElem_mem (n := 1) (by decide), rfl, List.mem_append_left _ (zWq_in (q := 591) (by decide +kernel))⟩
  rcases List.mem_cons.mp ht with rfl | ht
  · exact ⟨by decide, _, List.getElem_mem (n := 2) (by decide), rfl, List.mem_append_left _ (zWq_in (q := 1053) (by decide +kernel))⟩
  rcases List.mem_cons.mp ht with rfl | ht
  · exact ⟨by decide, _, List.getElem_mem (n := 3) (by decide), rfl, List.mem_append_left _ (zWq_in (q := 189) (by decide +kernel))⟩
  rcases List.mem_cons.mp ht with rfl | ht
  · exact ⟨by decide, _, List.getElem_mem (n := 4) (by decide), rfl, List.mem_append_left _ (zWq_in (q := 592) (by decide +kernel))⟩
  · cases ht
theorem yEx_uni : ∀ q ∈ yExs, ∀ q2 ∈ yExs, q.1 = q2.1 → q = q2 := by decide +kernel
abbrev wHd : Type := List (Nat × Nat × Int32 × Int32)
def wEn (e : Nat) (q : Nat × Nat × Int32 × Int32) : ExceptionTableEntry := ⟨0, e, q.1, q.2.1⟩
/-- a handler's rows -/
def wHk (cc : ByteArray) (mx : Nat) (q : Nat × Nat × Int32 × Int32) : Prop :=
  (∃ (k : Fin 4) (z : Int), decode cc q.1 = .ok (.astore_n k, 1) ∧ k.val < mx ∧ decode cc (q.1 + 1) = .ok (.iconst z, 1) ∧ Int32.ofInt z = q.2.2.2 ∧ decode cc (q.1 + 2) = .ok (.ireturn, 1)) ∨
  (∃ (k : Nat) (z : Int), decode cc q.1 = .ok (.astore k, 2) ∧ k < mx ∧ decode cc (q.1 + 2) = .ok (.iconst z, 1) ∧ Int32.ofInt z = q.2.2.2 ∧ decode cc (q.1 + 3) = .ok (.ireturn, 1))
def wV (hd : wHd) (N T : Option Value → zM → Prop) : Option Value → zM → Prop := fun v w2 => (∃ (o : Int32) (w : zM), N (some (.int o)) w ∧ v = some (.int 0) ∧ w2 = zUp w 142 0 o) ∨ (∃ q ∈ hd, v = some (.int q.2.2.2) ∧ T (some (.int q.2.2.1)) w2)
section WR
variable {p : Program} {l : Launch} {e : Env} {R : Room} {s : State} {m : MethodId} {args : Array Value} {below : List Frame} {meth : Method} {c : Code} {H : Heap} {locs : List Loc} {cells slots : Nat} {Z : State → Prop} {cc : ByteArray} {mx nn : Nat} {E : zE} {Q : Option Value → zM → Prop} {u : zM} {pc : Nat} {L : Array Slot} {rest st0 : List Value}
theorem yCatch_go (hr : vx_Run p l e R s m args below meth c H locs 0 0 1 6 (F0 m pc L st0) rest (fun _ _ _ => False) (yXC nn E Q) (zA E)) (hS : va_S (zA E) s.heap H locs)
    (kx : ∀ (ex : Int32 × String × Nat × Nat) (u1 : zM) (ce : Cell) (q : Addr) (H1 : Heap) (locs1 : List Loc), ex ∈ yExs → Q (some (.int ex.1)) u1 → yH nn E u1 H1 → va_S (zA E) s.heap H1 locs1 → H1[q]? = some ce → ce.vm = .none → s.vm.findClass ex.2.1 = some ce.cls → vx_W p l e R s m args below meth c H1 locs1 1 6 Z (F0 m pc L rest) q) : W p l e R s m args below meth c H locs 0 0 Z (F0 m pc L st0) := by
  intro T hT X
  rcases hr T hT X with ⟨v, st₀, t, T', L1, h0, X', hL, e1, e2, hF, st⟩ | ⟨q, st₀, t, T', L1, C, ce, h0, X', hL, e1, e2, ⟨⟨ex, u1, hex, hC, hq, hb⟩, hF⟩, hce, hcv, hcl, st⟩
  · exact hF.elim
  · obtain ⟨k1, k2, k3⟩ := vx_keep h0 e1 hS (fun _ _ z => z) (fun _ z => z) hL hF
    subst hC
    obtain ⟨t3, a1, b1⟩ := kx ex u1 ce q T'.heap (locs ++ L1) hex hq (by rw [e1]; exact hb.2) k3 (by rw [e1]; exact hce) hcv hcl T' rfl X'
    exact ⟨t3, st.trans a1, b1⟩
theorem wTail (hlt : l.stackTraces = false) (hx : p.tables.exec = Jvm.exec) (hb : c.code = cc) (hml : c.maxLocals = mx) (hown : s.vm.findClass RL = some m.cls) (hts : ∀ w ∈ yTS, w.before args s = true) (hK : va_K E.1 vwCl (zTys E) s) (hbase : E.2.2.2 ≤ s.heap.size) (hst : yX false E s s.heap) (hlk : meth.locks = false) (hrt : meth.sig.returnType = some .int) (hR1 : 69 ≤ R.frames) (hR2 : 4504 ≤ R.locals) (hRc : 1 ≤ R.cells) (hRs : 6 ≤ R.slots)
    {a idx pI pE : Nat} {off : Int} (hin : (13, idx, a) ∈ zMls) (hn : zOo a ≠ 13) (hsd : ySb (zOo a) false = true) (hk : zRc a = 10) {as : List Value} (has : as.length = zNa a) (hrb : zRb a ≠ 0)
    {N T : Option Value → zM → Prop} (h : zCall 60 false a (.ref 0 :: as) u N ∨ zCall 60 true a (.ref 0 :: as) u T) {hd : wHd} (htab : c.exceptionTable.toList = hd.map (wEn (pI + 5))) (hT : ∀ v w, T v w → ∃ q ∈ hd, v = some (.int q.2.2.1)) (hnd : (hd.map fun q => q.2.2.1).Nodup) (hct : ∀ q ∈ hd, (q.2.1, q.2.2.1) ∈ yCt)
    (d0 : decode cc pI = .ok (.invokevirtual idx, 3)) (d3 : decode cc (pI + 3) = .ok (.i2l, 1)) (d4 : decode cc (pI + 4) = .ok (.lastore, 1)) (d5 : decode cc (pI + 5) = .ok (.goto off, 3)) (hoff : ((pI + 5 : Nat) : Int) + off = (pE : Int)) (d6 : decode cc pE = .ok (.iconst 0, 1)) (d7 : decode cc (pE + 1) = .ok (.ireturn, 1)) (dh : ∀ q ∈ hd, wHk cc mx q)
    {ls0 : List (Nat × Value)} (hL : lv_has L mx ls0) (hH : yH 143 E u s.heap) : W p l e R s m args below meth c s.heap [] 0 0 (vx_MQ below (yQ 143 E (wV hd N T)) (fun _ _ _ => False) args s 1 6 (zA E)) (F0 m pI L ((as.reverse ++ ([.ref 0, .int 0, .ref 142] : List Value)).map (zCv (zAd E)))) := by
  have hs142 : zShapes[142]? = some (.inr (2, 1)) := by decide +kernel
  have hs0 : zShapes[0]? = some (.inl (zRc a)) := by rw [hk]; decide +kernel
  have hlt2 : ∀ {x : Nat} {q : Nat}, zShapes[x]? = some (.inl q) → x < 143 := fun g => zSh_lt g
  have hS : va_S (zA E) s.heap s.heap [] := va_S.rf
  have ha : a < 363 := (zMls_in hin).2
  rcases h with h | h
  · refine ycV (own := 13) (d := 60) (nn := 143) (bb := false) (r := [.int 0, .ref 142]) hx hb hml hown hts hK hst hlt2 hR1 hR2 ⟨Nat.zero_le _, Nat.zero_le _⟩ hin hn (by rw [hk]; decide) (yCall_met l 143 (Or.inl rfl) false E 60 a _ u _ ha hn hsd (Or.inl rfl) (zCall_sh h)) hs0 (by decide) has hH hS hL.1 d0 (fun v u1 H1 locs1 hz hq hH1 hS1 => ?_)
    obtain ⟨hq, hv⟩ := hq
    obtain ⟨o, rfl⟩ : ∃ o, v = some (.int o) := by
      rcases hz with rfl | hz
      · exact absurd (hv.mp rfl) hrb
      · exact hz
    refine lv_i2l hx hb d3 rfl ?_
    refine va_last hx hb hK hH1.1 hH1.2.1 hS1 142 2 (by rw [yWs_at E u1 (by decide), zCont_2 hs142]) rfl (i := 0) (show ¬ ((0 : Int32) < 0 ∨ 1 ≤ (0 : Int32).toNatClampNeg) by decide) d4 (fun H2 locs2 hP2 hD2 hS2 => ?_)
    have hu : vp_updL (fun j => (u1 142 j).toInt64) (0 : Int32).toNatClampNeg o.toInt64 = fun j => (upd (u1 142) 0 o j).toInt64 := by
      funext j
      show vp_updL (fun j => (u1 142 j).toInt64) 0 o.toInt64 j = _
      simp only [vp_updL, upd]
      split <;> rfl
    rw [hu, ← zCont_2 (E := E) (u := upd (u1 142) 0 o) hs142] at hP2 hD2
    have hH2 : yH 143 E (zUp u1 142 0 o) H2 := yHup (by decide) (Nat.le_trans hbase hS2.1) hP2 hD2
    refine lv_goto hx hb d5 hoff ?_
    refine lv_iconst (v := 0) hx hb d6 rfl ?_
    exact W.widen (Nat.zero_le 1) (Nat.zero_le 6) (vx_ret (W.iret hx hb hrt (fun t ht hW => ⟨⟨some (.int 0), zUp u1 142 0 o, rfl, Or.inr ⟨0, rfl⟩, Or.inl ⟨o, u1, hq, rfl, rfl⟩, va_K.moved hW.alike hK, by rw [ht]; exact hH2⟩, hS2.F ht⟩) hS2.2.2 d7 hlk))
  · obtain ⟨cw, hp⟩ := ycW (own := 13) (d := 60) (bb := false) (rm := yRt 60) (mc := 1) (ms := 6) (as := as) hts hK hst hlt2 hin hn (by rw [hk]; decide) rfl rfl rfl rfl hR1 hR2 hs0 hH hS
    refine yCatch_go (vx_runV (As := as.map (zCv (zAd E))) (rest := [Value.int 0, .ref 142].map (zCv (zAd E))) (b := zAd E 0) ⟨hx, hb, hml, hown, hts⟩ (yThr_met l hlt 143 (Or.inl rfl) false E 60 a (.ref 0 :: as) u T ha hn hsd (Or.inl rfl) h) cw hp rfl (by rw [List.length_map]; exact has) hL.1 (by simp [zCv]) (lv_room (zRest _ (by decide))) d0 ⟨hRc, hRs⟩) hS (fun ex u1 ce q H1 locs1 hex hq hH1 hS1 hce hcv hcl => ?_)
    obtain ⟨q0, hq0, he⟩ := hT _ _ hq
    have he1 : ex.1 = q0.2.2.1 := by simpa using he
    obtain ⟨pre, suf, hsp⟩ := List.append_of_mem hq0
    have hpre : ∀ q1 ∈ pre, q1.2.2.1 ≠ q0.2.2.1 := by
      intro q1 h1 h2
      rw [hsp, List.map_append, List.map_cons] at hnd
      have h3 := (List.nodup_append.mp hnd).2.2 _ (List.mem_map.mpr ⟨q1, h1, rfl⟩) _ List.mem_cons_self
      exact h3 h2
    have hex0 : ∀ {q1 : Nat × Nat × Int32 × Int32}, q1 ∈ hd → q1.2.1 ≠ 0 ∧ ∃ x1 ∈ yExs, x1.1 = q1.2.2.1 ∧ Jvm.Cond.classLink RL q1.2.1 x1.2.1 ∈ zTS := fun hq1 => yCt_ok _ (hct _ hq1)
    obtain ⟨z0, x0, hx0, hx1, hx2⟩ := hex0 hq0
    have hxe : x0 = ex := yEx_uni _ hx0 _ hex (by rw [hx1, he1])
    subst hxe
    refine vx_catch (own := RL) (name := x0.2.1) (E := x0.2.1) (ce := ce) hown (pre.map (wEn (pI + 5))) (wEn (pI + 5) q0) (suf.map (wEn (pI + 5))) (by rw [htab, hsp, List.map_append, List.map_cons]) (fun z hz => ?_) ?_ z0 (yts hts _ hx2) (va_Nw.use rfl (hst.2.1.2.1 x0 hex)) hce hcv hcl ?_
    · obtain ⟨q1, h1, rfl⟩ := List.mem_map.mp hz
      have hq1 : q1 ∈ hd := by rw [hsp]; exact List.mem_append_left _ h1
      obtain ⟨z1, x1, g1, g2, g3⟩ := hex0 hq1
      exact Or.inr ⟨z1, x1.2.1, yts hts _ g3, hst.2.1.2.2.2 x0 hex x1 g1 (fun e => hpre q1 h1 (by rw [← g2, ← e, hx1]))⟩
    · show covers ⟨0, pI + 5, q0.1, q0.2.1⟩ pI = true
      simp [covers]
    · have hend : ∀ (pc2 : Nat) (L2 : Array Slot), decode cc pc2 = .ok (.ireturn, 1) → W p l e R s m args below meth c H1 locs1 1 6 (vx_MQ below (yQ 143 E (wV hd N T)) (fun _ _ _ => False) args s 1 6 (zA E)) (F0 m pc2 L2 [.int q0.2.2.2]) := fun pc2 L2 hdg => vx_ret (W.iret hx hb hrt (fun t ht hW => ⟨⟨some (.int q0.2.2.2), u1, rfl, Or.inr ⟨_, rfl⟩, Or.inr ⟨q0, hq0, rfl, by rw [← he1]; exact hq⟩, va_K.moved hW.alike hK, by rw [ht]; exact hH1⟩, hS1.F ht⟩) hS1.2.2 hdg hlk)
      have hL0 : lv_has L mx [] := ⟨hL.1, hL.2.1, fun _ g => nomatch g⟩
      rcases dh q0 hq0 with ⟨k, z, e1, e2, e3, e4, e5⟩ | ⟨k, z, e1, e2, e3, e4, e5⟩
      · refine lv_astore_n hx hb e1 rfl hL0 e2 (lv' := [(k.val, .ref q)]) rfl (fun L2 hL2 => ?_)
        refine lv_iconst hx hb e3 e4 ?_
        exact hend _ _ e5
      · refine lv_astore hx hb e1 hL0 e2 (lv' := [(k, .ref q)]) rfl (fun L2 hL2 => ?_)
        refine lv_iconst hx hb e3 e4 ?_
        exact hend _ _ e5
end WR
