/-! a step of the constructors' machine, on the real one -/
def bNx (U : State) : Prop := va_AO RX1 U ∧ ∀ q ∈ bNs, va_Nw (.methodLinkNest (zOwn q.1) q.2.1 (bY q.2.2) RX11) U
theorem bNx.warm {s U : State} (hW : s.WarmedH U.vm) (h : bNx s) : bNx U := ⟨h.1.moved hW.alike, fun q hq => (h.2 q hq).warmM hW⟩
theorem bNx.same {u U : State} (hv : U.vm = u.vm) (h : bNx u) : bNx U := ⟨h.1.moved (by rw [hv]; exact Vm.Alike.refl u.vm), fun q hq => va_Nw.same (by rfl) hv.symm (h.2 q hq)⟩
def bB (E : zE) (ad : Nat → Nat) (M : List bC) (U : State) : Prop := va_K E.1 vwCl (zTys E) U ∧ bH (zEa E ad) M U.heap ∧ bNx U
def bRm (d y : Nat) : Room := { frames := d + 2, cells := bKc y, slots := bKs y, locals := 64 * d + 64 }
def bW (y : Nat) : List Jvm.Cond := .code (bY y) (bBy y) (bMx y) none :: yTS
def bAg (M : List bC) (ad : Nat → Nat) (ad1 : Nat → Nat) : Prop := ∀ k, k < M.length → ad1 k = ad k
def bE2 (E : zE) (M : List bC) (ad : Nat → Nat) (t : State) : Prop := va_K E.1 vwCl (zTys E) t ∧ bH (zEa E ad) M t.heap
def bMet (l : Launch) (E : zE) (d y : Nat) (as : List Value) (M M1 : List bC) (ad : Nat → Nat) : Prop := Met l (bY y) (bW y) (bRm d y) (va_Pc (as.map (zCv ad)) (bB E ad M)) (va_Qv (bAg M ad) (bE2 E M1) (zA E)) (bKc y) (bKs y) (zA E)
theorem bBlind (E : zE) (ad : Nat → Nat) (M : List bC) (as : List Value) : FrameBlind (va_Pc as (bB E ad M)) := fun _ U g mk q => ⟨q.1, va_K.moved (u := U) (U := U.calling g mk _) (Vm.Alike.refl U.vm) q.2.1, q.2.2.1, bNx.same (u := U) (U := U.calling g mk _) rfl q.2.2.2⟩
def bP (p : Program) (l : Launch) (e : Env) (R : Room) (s : State) (m : MethodId) (args : Array Value) (below : List Frame) (meth : Method) (c : Code) (Z : State → Prop) (nL : Nat) (E : zE) (m0 s0 : Nat) (ad : Nat → Nat) (pc : Nat) (ls : zLs) (st : List Value) (M : List bC) : Prop := ∀ (H : Heap) (locs : List Loc) (L : Array Slot), bH (zEa E ad) M H → va_S (zA E) s.heap H locs → lv_has L nL (zCl ad ls) → W p l e R s m args below meth c H locs (M.length - m0) (bSz M - s0) Z (F0 m pc L (st.map (zCv ad)))
section BW
variable {p : Program} {l : Launch} {e : Env} {R : Room} {s : State} {m : MethodId} {args : Array Value} {below : List Frame} {meth : Method} {c : Code} {Z : State → Prop} {cc : ByteArray} {nL : Nat} {E : zE} {m0 s0 own d : Nat}
theorem bMw {y : Nat} (hy : y < 13) : .code (bY y) (bBy y) (bMx y) none ∈ zTS ∧ .initialized (bY y).cls ∈ zTS ∧ bMx y ≤ 30 ∧ (parseMethodDescriptor (bY y).desc).map (fun d => d.parameters.length) = some (if y = 12 then 2 else 0) ∧ plainName (bY y).cls = true ∧ ((bY y).cls ≠ "java/lang/invoke/MethodHandle" ∧ (bY y).cls ≠ "java/lang/invoke/VarHandle") ∧ zOwn (bOw y) = (bY y).cls ∧ (y = 12 → .static (bY y) ∈ zTS) ∧ (y ≠ 12 → (bY y).name = "<init>" ∧ .instanceMethod (bY y) ∈ zTS) ∧ (y ≠ 11 → decode (bBy y) (bSp y) = .ok (.return_, 1)) := by
  have h := List.all_eq_true.mp bMw_ok y (List.mem_range.mpr hy)
  simp only [Bool.and_eq_true, decide_eq_true_eq, Bool.or_eq_true] at h
  obtain ⟨⟨⟨⟨⟨⟨⟨⟨⟨h1, h2⟩, h3⟩, h4⟩, h5⟩, h6⟩, h7⟩, h8⟩, h9⟩, h10⟩ := h
  refine ⟨bWd_in h1, bWd_in h2, h3, h4, h5, ⟨h6, h7⟩, h8, fun q => ?_, fun q => ?_, fun q => h10.resolve_left q⟩
  · rw [if_pos q] at h9
    exact bWd_in (of_decide_eq_true h9)
  · rw [if_neg q] at h9
    simp only [Bool.and_eq_true, decide_eq_true_eq] at h9
    exact ⟨h9.1, bWd_in h9.2⟩
theorem bGood {y : Nat} (hy : y < 13) : GoodIn yTS (bW y) := fun w hw => by
  rcases List.mem_cons.mp hw with rfl | hw
  · exact ⟨List.mem_append_left _ (bMw hy).1, zTS_good _ (bMw hy).1⟩
  · exact ⟨hw, yTS_good _ hw⟩
theorem bRl {q d r : Nat} (h : q ≤ 30) (h2 : 64 * d + 128 ≤ r) : 8 + (q + 11) + (64 * d + 64) ≤ r := by omega
theorem bPs (hK : va_K E.1 vwCl (zTys E) s) (hN : bNx s) {ad : Nat → Nat} {M : List bC} {H : Heap} (as : List Value) (hH : bH (zEa E ad) M H) : PreS s H (va_Pc (as.map (zCv ad)) (bB E ad M)) (as.map (zCv ad)) := ⟨bBlind E ad M _, fun U hU hW => ⟨rfl, va_K.moved hW.alike hK, by rw [hU]; exact hH, hN.warm hW⟩⟩
/-- a call -/
theorem bCall_go {pc mc ms cells slots : Nat} {ad : Nat → Nat} {ls : zLs} {r : List Value} {M M1 : List bC} {a : Array Value} {H : Heap} {locs : List Loc} {L : Array Slot} {st0 : List Value}
    (hr : va_Run p l e R s m args below meth c H locs cells slots mc ms (F0 m pc L st0) (r.map (zCv ad)) (va_Qv (bAg M ad) (bE2 E M1) (zA E) a) (zA E)) (hS : va_S (zA E) s.heap H locs) (hls : ls.all (fun q => bRf M.length q.2) = true) (hst : r.all (bRf M.length) = true) (hL : lv_has L nL (zCl ad ls)) (hc : cells + mc = M1.length - m0) (hs : slots + ms = bSz M1 - s0)
    (K : ∀ ad1, bAg M ad ad1 → bP p l e R s m args below meth c Z nL E m0 s0 ad1 (pc + 3) ls r M1) : W p l e R s m args below meth c H locs cells slots Z (F0 m pc L st0) := by
  refine va_callv hr hS (fun _ _ h => h) (fun _ h => h) (fun ad1 t H1 locs1 ht _ hag hB _ _ hS1 => ?_)
  have h := K ad1 hag H1 locs1 L (by rw [← ht]; exact hB.2) hS1 (by rw [bCl_ag hag ls hls]; exact hL)
  rw [bCvs_ag hag r hst] at h
  rw [hc, hs]
  exact h
theorem bI {a a1 : Nat} {b b1 : zLs} {c c1 : List Value} {d d1 : List bC} (h : (some (a, b, c, d) : Option bRes) = some (a1, b1, c1, d1)) : a = a1 ∧ b = b1 ∧ c = c1 ∧ d = d1 := by
  cases h
  exact ⟨rfl, rfl, rfl, rfl⟩
theorem oN {α : Type} {z : α} (h : (none : Option α) = some z) : False := nomatch h
theorem bLen0 (n a m0 : Nat) (h : m0 ≤ n) : n - m0 + a = n + a - m0 := by omega
/-- a cell written -/
theorem bUp {ad : Nat → Nat} {M : List bC} {x : Nat} {c0 c1 : bC} {H1 : Heap} (hx : M[x]? = some c0) (hS : E.2.2.2 ≤ H1.size) (hP : va_P E.1 vwCl ((bWs (zEa E ad) M).set x (ad x, bCo (zEa E ad) c1)) H1) (hD : va_D (zA E) ((bWs (zEa E ad) M).set x (ad x, bCo (zEa E ad) c1))) : bH (zEa E ad) (M.set x c1) H1 := by
  have e := bWs_set (zEa E ad) hx c1
  exact ⟨e ▸ hP, e ▸ hD, hS⟩
/-- a new object -/
theorem bNew_go (hx : p.tables.exec = Jvm.exec) (hb : c.code = cc) (hown : s.vm.findClass (zOwn own) = some m.cls) (htz : ∀ w ∈ zTS, w.before args s = true) (hK : va_K E.1 vwCl (zTys E) s) (hbase : E.2.2.2 ≤ s.heap.size) (hA : ∀ q, s.heap.size ≤ q → zA E q) {a idx pc cells slots : Nat} {ad : Nat → Nat} {M : List bC} {H : Heap} {locs : List Loc} {L : Array Slot} {rest : List Value} (ha : a < 12) (hw1 : .classLink (zOwn own) idx (bCn a) ∈ zTS) (hw2 : .instantiable (bCn a) (zFk a).length ∈ zTS) (hw3 : .initialized (bCn a) ∈ zTS) (hM : M.all (bOc M.length) = true) (hcells : cells + 1 ≤ R.cells) (hslots : slots + (bDef a).length ≤ R.slots) (hd : decode cc pc = .ok (.new idx, 3)) (hH : bH (zEa E ad) M H) (hS : va_S (zA E) s.heap H locs)
    (kk : ∀ (q : Nat) (H1 : Heap), bH (zEa E (bAd ad M.length q)) (M ++ [.inr (.inr (a, bDef a))]) H1 → va_S (zA E) s.heap H1 locs → W p l e R s m args below meth c H1 locs (cells + 1) (slots + (bDef a).length) Z (F0 m (pc + 3) L (.ref q :: rest))) : W p l e R s m args below meth c H locs cells slots Z (F0 m pc L rest) := by
  obtain ⟨C0, T0, N0, ty0, e1, e2, e3, e4, e5, e6⟩ := zCls a ha
  have hcn : bCn a = C0 := by unfold bCn; rw [List.getD_eq_getElem?_getD, e1]; rfl
  rw [hcn] at hw1 hw2 hw3
  rw [e3] at hw2
  have hdl : (bDef a).length = N0 := by rw [← e3]; simp [bDef]
  rw [hdl] at hslots
  have hfs : ∀ j, j < N0 → defaultValue (ty0 j) = vp_V (bDef a) j := by
    intro j hj
    have g := List.all_eq_true.mp (List.all_eq_true.mp bDef_ok a (List.mem_range.mpr ha)) j (List.mem_range.mpr (by rw [e3]; exact hj))
    have hft : zFt a j = T0 j := by unfold zFt; rw [e2]
    rw [hft, e5 j hj] at g
    exact bVq_e g
  refine va_new (ci := a) (fs := bDef a) hx hb htz e4 ty0 e5 hown (htz _ hw1) (htz _ hw2) (htz _ hw3) hK hH.1 hH.2.1 hS hA e1 hfs (by omega) (by omega) hd (fun q H1 hP1 hD1 hS1 => ?_)
  have e8 : (bDef a).map (zCv (bAd ad M.length q)) = bDef a := by
    unfold bDef
    rw [List.map_map]
    refine List.map_congr_left fun o _ => ?_
    cases o <;> rfl
  have e9 := bWs_push (E := E) (ad := ad) (q := q) (c := .inr (.inr (a, bDef a))) hM
  have e10 : bCo (zEa E (bAd ad M.length q)) (.inr (.inr (a, bDef a))) = .inr (a, bDef a) := by
    show Sum.inr (a, (bDef a).map (zCv (bAd ad M.length q))) = _
    rw [e8]
  rw [e10] at e9
  have hk := kk q H1 ⟨by rw [e9]; exact hP1, by rw [e9]; exact hD1, Nat.le_trans hbase hS1.1⟩ hS1
  rw [hdl] at hk
  exact hk
theorem bTyA {t : ArrayType} {a : Nat} (h : (match t, a with
      | .int, 0 => true
      | .byte, 1 => true
      | .long, 2 => true
      | _, _ => false) = true) : (t = .int ∧ a = 0) ∨ (t = .byte ∧ a = 1) ∨ (t = .long ∧ a = 2) := by
  split at h
  · exact Or.inl ⟨rfl, rfl⟩
  · exact Or.inr (Or.inl ⟨rfl, rfl⟩)
  · exact Or.inr (Or.inr ⟨rfl, rfl⟩)
  · cases h
theorem bFit_e {k : Nat} {w : Value} (h : bFit k w = true) : (k = 0 ∧ ∃ x, w = .int x) ∨ (k = 1 ∧ ∃ x, w = .ref x) := by
  unfold bFit at h
  split at h
  · exact Or.inl ⟨rfl, _, rfl⟩
  · exact Or.inr ⟨rfl, _, rfl⟩
  · cases h
theorem bTyP {o : Option FieldType} {k : Nat} {w : Value} {ad : Nat → Nat} (h : (match o, k with
      | some .int, 0 => true
      | some (.object _), 1 => true
      | some (.array _), 1 => true
      | _, _ => false) = true) (hf : bFit k w = true) : ∃ ty, o = some ty ∧ narrow ty (zCv ad w) = zCv ad w ∧ fits ty (zCv ad w) = true := by
  rcases bFit_e hf with ⟨rfl, x, rfl⟩ | ⟨rfl, x, rfl⟩
  · cases o with
    | none => exact absurd h Bool.false_ne_true
    | some ty => cases ty <;> first | exact ⟨_, rfl, rfl, rfl⟩ | exact absurd h Bool.false_ne_true
  · cases o with
    | none => exact absurd h Bool.false_ne_true
    | some ty => cases ty <;> first | exact ⟨_, rfl, rfl, rfl⟩ | exact absurd h Bool.false_ne_true
set_option maxRecDepth 100000 in
set_option maxHeartbeats 4000000 in
theorem bSt_sound (hx : p.tables.exec = Jvm.exec) (hb : c.code = cc) (hml : c.maxLocals = nL) (hown : s.vm.findClass (zOwn own) = some m.cls) (hts : ∀ w ∈ yTS, w.before args s = true) (hK : va_K E.1 vwCl (zTys E) s) (hN : bNx s) (hbase : E.2.2.2 ≤ s.heap.size) (hA : ∀ q, s.heap.size ≤ q → zA E q) {cd : zCd} (hcd : ∀ (pc : Nat) (x : zIn), zLk cd pc = some x → decode cc pc = .ok (x.1, x.2.1) ∧ bOI own nL x = true) (hini : own = 15 ∨ own = 13 ∨ meth.name = "<init>") (hno : own = 15 ∨ own = 13 → ∀ x ∈ cd, (match x.2.1 with
      | .putfield _ => false
      | _ => true) = true) {mx sx : Nat} (hRf : d + 3 ≤ R.frames) (hRl : 64 * d + 128 ≤ R.locals) (hRc : mx - m0 ≤ R.cells) (hRs : sx - s0 ≤ R.slots)
    {call : Nat → List Value → List bC → Option (List bC)} (hC : ∀ (y : Nat) (as : List Value) (M M1 : List bC) (ad : Nat → Nat), y < 13 → call y as M = some M1 → bMet l E d y as M M1 ad)
    {pc : Nat} {ls : zLs} {st : List Value} {M : List bC} {pc1 : Nat} {ls1 : zLs} {st1 : List Value} {M1 : List bC} (h : bSt call cd mx sx pc ls st M = some (pc1, ls1, st1, M1)) (hm : m0 ≤ M.length) (hs : s0 ≤ bSz M) (ad : Nat → Nat) (K : ∀ ad1, bAg M ad ad1 → bP p l e R s m args below meth c Z nL E m0 s0 ad1 pc1 ls1 st1 M1) : bP p l e R s m args below meth c Z nL E m0 s0 ad pc ls st M := by
  have K0 := K ad (fun _ _ => rfl)
  have htz := yts hts
  unfold bSt at h
  cases hq : zLk cd pc with
  | none => rw [hq] at h; cases h
  | some x =>
    rw [hq] at h
    obtain ⟨hd, hok⟩ := hcd pc x hq
    obtain ⟨i, n, a, b, k, v⟩ := x
    dsimp only at hd h
    cases i
    all_goals first | exact (oN h).elim | skip
    case iadd =>
      obtain rfl : n = 1 := by simpa [bOI] using hok
      obtain ⟨y, x, r, rfl, h⟩ := oI2_e h
      obtain ⟨q1, q2, q3, q4⟩ := bI h
      subst q1
      subst q2
      subst q3
      subst q4
      intro H locs L hH hS hL
      exact lv_iadd hx hb hd (K0 H locs L hH hS hL)
    case imul =>
      obtain rfl : n = 1 := by simpa [bOI] using hok
      obtain ⟨y, x, r, rfl, h⟩ := oI2_e h
      obtain ⟨q1, q2, q3, q4⟩ := bI h
      subst q1
      subst q2
      subst q3
      subst q4
      intro H locs L hH hS hL
      exact lv_imul hx hb hd (K0 H locs L hH hS hL)
    case iconst z =>
      obtain ⟨rfl, hv⟩ : n = 1 ∧ Int32.ofInt z = v := by simpa [bOI] using hok
      obtain ⟨q1, q2, q3, q4⟩ := bI h
      subst q1
      subst q2
      subst q3
      subst q4
      intro H locs L hH hS hL
      exact lv_iconst hx hb hd hv (K0 H locs L hH hS hL)
    case bipush z =>
      obtain ⟨rfl, hv⟩ : n = 2 ∧ (Int8.ofInt z).toInt32 = v := by simpa [bOI] using hok
      obtain ⟨q1, q2, q3, q4⟩ := bI h
      subst q1
      subst q2
      subst q3
      subst q4
      intro H locs L hH hS hL
      exact lv_bipush hx hb hd hv (K0 H locs L hH hS hL)
    case sipush z =>
      obtain ⟨rfl, hv⟩ : n = 3 ∧ (Int16.ofInt z).toInt32 = v := by simpa [bOI] using hok
      obtain ⟨q1, q2, q3, q4⟩ := bI h
      subst q1
      subst q2
      subst q3
      subst q4
      intro H locs L hH hS hL
      exact lv_sipush hx hb hd hv (K0 H locs L hH hS hL)
    case dup =>
      obtain rfl : n = 1 := by simpa [bOI] using hok
      obtain ⟨w, r, rfl, h⟩ := oV1_e h
      obtain ⟨hc, h⟩ := oIf_e h
      obtain ⟨q1, q2, q3, q4⟩ := bI h
      subst q1
      subst q2
      subst q3
      subst q4
      intro H locs L hH hS hL
      exact lv_dup hx hb hd (by rw [zCv_cat]; exact eq_of_beq hc) (K0 H locs L hH hS hL)
    case iload_n j =>
      obtain rfl : n = 1 := by simpa [bOI] using hok
      obtain ⟨x, hg, h⟩ := oLi_e h
      obtain ⟨q1, q2, q3, q4⟩ := bI h
      subst q1
      subst q2
      subst q3
      subst q4
      intro H locs L hH hS hL
      exact lv_iload_n hx hb hd rfl (zCl_lk hL hg) (K0 H locs L hH hS hL)
    case aload_n j =>
      obtain rfl : n = 1 := by simpa [bOI] using hok
      obtain ⟨x, hg, h⟩ := oLr_e h
      obtain ⟨q1, q2, q3, q4⟩ := bI h
      subst q1
      subst q2
      subst q3
      subst q4
      intro H locs L hH hS hL
      exact lv_aload_n hx hb hd rfl (zCl_lk hL hg) (K0 H locs L hH hS hL)
    case istore_n j =>
      obtain ⟨rfl, hj⟩ : n = 1 ∧ j.val < nL := by simpa [bOI] using hok
      obtain ⟨x, r, rfl, h⟩ := oI1_e h
      obtain ⟨q1, q2, q3, q4⟩ := bI h
      subst q1
      subst q2
      subst q3
      subst q4
      intro H locs L hH hS hL
      exact lv_istore_n hx hb hd rfl hL hj (zCl_set ad ls _ (.int x)) (fun L2 hL2 => K0 H locs L2 hH hS hL2)
    case astore_n j =>
      obtain ⟨rfl, hj⟩ : n = 1 ∧ j.val < nL := by simpa [bOI] using hok
      obtain ⟨x, r, rfl, h⟩ := oR1_e h
      obtain ⟨q1, q2, q3, q4⟩ := bI h
      subst q1
      subst q2
      subst q3
      subst q4
      intro H locs L hH hS hL
      exact lv_astore_n hx hb hd rfl hL hj (zCl_set ad ls _ (.ref x)) (fun L2 hL2 => K0 H locs L2 hH hS hL2)
    case iinc j z =>
      obtain ⟨⟨rfl, hv⟩, hj⟩ : (n = 3 ∧ Int32.ofInt z = v) ∧ j < nL := by simpa [bOI] using hok
      obtain ⟨x, hg, h⟩ := oLi_e h
      subst hv
      obtain ⟨q1, q2, q3, q4⟩ := bI h
      subst q1
      subst q2
      subst q3
      subst q4
      intro H locs L hH hS hL
      obtain ⟨q, hq2⟩ := zLk_at hg
      exact lv_iinc (k := q) hx hb hd hL (by rw [zCl, List.getElem?_map, hq2]; rfl) rfl hj (zCl_set ad ls _ (.int (x + Int32.ofInt z))) (fun L2 hL2 => K0 H locs L2 hH hS hL2)
    case goto o =>
      obtain rfl : n = 3 := by simpa [bOI] using hok
      obtain ⟨t, ht, h⟩ := oJ_e h
      obtain ⟨q1, q2, q3, q4⟩ := bI h
      subst q1
      subst q2
      subst q3
      subst q4
      intro H locs L hH hS hL
      exact lv_goto hx hb hd ht (K0 H locs L hH hS hL)
    case if_icmp q o =>
      obtain rfl : n = 3 := by simpa [bOI] using hok
      cases q
      all_goals first | exact (oN h).elim | skip
      obtain ⟨y, x, r, rfl, h⟩ := oI2_e h
      obtain ⟨t, ht, h⟩ := oJ_e h
      intro H locs L hH hS hL
      refine lv_icmp_ge hx hb hd ht (fun z => ?_) (fun z => ?_)
      · rw [decide_eq_true z] at h
        cases h
        exact K0 H locs L hH hS hL
      · rw [decide_eq_false z] at h
        cases h
        exact K0 H locs L hH hS hL
    case arraylength =>
      obtain rfl : n = 1 := by simpa [bOI] using hok
      obtain ⟨x, r, rfl, h⟩ := oR1_e h
      obtain ⟨n0, f, hs0, h⟩ := oA_e h
      obtain ⟨q1, q2, q3, q4⟩ := bI h
      subst q1
      subst q2
      subst q3
      subst q4
      intro H locs L hH hS hL
      exact va_alen hx hb hK hH.1 x 0 (bWs_at1 hs0) rfl rfl hd (K0 H locs L hH hS hL)
    case iastore =>
      obtain rfl : n = 1 := by simpa [bOI] using hok
      obtain ⟨w, y, x, r, rfl, h⟩ := oIIR_e h
      obtain ⟨n0, f, hs0, h⟩ := oA_e h
      obtain ⟨hv, h⟩ := oIf_e h
      have hv0 := of_decide_eq_true hv
      have hv : vp_in y n0 := hv0
      obtain ⟨q1, q2, q3, q4⟩ := bI h
      subst q1
      subst q2
      subst q3
      subst q4
      intro H locs L hH hS hL
      refine va_iast hx hb hK hH.1 hH.2.1 hS x 0 (bWs_at1 hs0) rfl hv hd (fun H1 locs1 hP1 hD1 hS1 => ?_)
      have hk := K0 H1 locs1 L (bUp (c1 := .inl (0, n0, upd f y.toNatClampNeg w)) hs0 (Nat.le_trans hbase hS1.1) hP1 hD1) hS1 hL
      rw [List.length_set, bSz_set (c := .inl (0, n0, upd f y.toNatClampNeg w)) hs0 rfl] at hk
      exact hk
    case aastore =>
      obtain rfl : n = 1 := by simpa [bOI] using hok
      obtain ⟨w, y, x, r, rfl, h⟩ := oRIR_e h
      obtain ⟨l0, hs0, h⟩ := oQ_e h
      obtain ⟨fs, hw, h⟩ := oO_e h
      obtain ⟨hv, h⟩ := oIf_e h
      have hv0 := of_decide_eq_true hv
      have hv : vp_in y l0.length := hv0
      obtain ⟨q1, q2, q3, q4⟩ := bI h
      subst q1
      subst q2
      subst q3
      subst q4
      intro H locs L hH hS hL
      refine va_astq hx hb hK hH.1 hH.2.1 hS x 3 w 1 (r := (RX1, TX1, 12)) (bWs_at1 hs0) rfl (bWs_at1 hw) rfl hv hd (fun H1 locs1 hP1 hD1 hS1 => ?_)
      have e1 : va_up (fun i => (l0.getD i none).map (zAd (zEa E ad))) y.toNatClampNeg (some (ad w)) = fun i => ((l0.set y.toNatClampNeg (some w)).getD i none).map (zAd (zEa E ad)) := by
        have hlt : y.toNatClampNeg < l0.length := Nat.not_le.mp fun q => hv (Or.inr q)
        funext i
        show va_up (fun i => (l0.getD i none).map (zAd (zEa E ad))) y.toNatClampNeg (some (ad w)) i = ((l0.set y.toNatClampNeg (some w)).getD i none).map (zAd (zEa E ad))
        by_cases hi : i = y.toNatClampNeg
        · subst hi
          rw [va_up_self, List.getD_eq_getElem?_getD, List.getElem?_set_self hlt]
          rfl
        · rw [va_up_ne _ _ hi]
          show (l0.getD i none).map (zAd (zEa E ad)) = _
          rw [List.getD_eq_getElem?_getD, List.getD_eq_getElem?_getD, List.getElem?_set_ne (Ne.symm hi)]
      have e2 : bCo (zEa E ad) (.inr (.inl (l0.set y.toNatClampNeg (some w)))) = .inl (E.2.1 3, (l0.length, .inr (.inr (.inr (.inr (va_up (fun i => (l0.getD i none).map (zAd (zEa E ad))) y.toNatClampNeg (some (ad w)))))))) := by
        rw [e1]
        show Sum.inl (E.2.1 3, ((l0.set y.toNatClampNeg (some w)).length, _)) = _
        rw [List.length_set]
      have hk := K0 H1 locs1 L (bUp (c1 := .inr (.inl (l0.set y.toNatClampNeg (some w)))) hs0 (Nat.le_trans hbase hS1.1) (by rw [e2]; exact hP1) (by rw [e2]; exact hD1)) hS1 hL
      rw [List.length_set, bSz_set (c := .inr (.inl (l0.set y.toNatClampNeg (some w)))) hs0 (List.length_set ..)] at hk
      exact hk
    case getfield idx =>
      have hok2 := hok
      simp only [bOI, Bool.and_eq_true, decide_eq_true_eq] at hok2
      obtain ⟨⟨⟨rfl, ha⟩, hb2⟩, hin⟩ := hok2
      have hw := bWd_in hin
      obtain ⟨x, r, rfl, h⟩ := oR1_e h
      obtain ⟨fs, hs0, h⟩ := oO_e h
      obtain ⟨C0, T0, N0, ty0, e1, e2, e3, e4, -, -⟩ := zCls a ha
      have hft : zFt a b = T0 b := by unfold zFt; rw [e2]
      rw [hft] at hw
      have hbN : b < N0 := by rw [← e3]; exact hb2
      split at h
      · rename_i w hw2
        obtain ⟨q1, q2, q3, q4⟩ := bI h
        subst q1
        subst q2
        subst q3
        subst q4
        intro H locs L hH hS hL
        exact va_get hx hb htz e4 hown hK hH.1 x (bWs_at1 hs0) e1 b hbN (htz _ hw) (fun _ q => q) (v := zCv ad w) (by rw [List.getElem?_map, hw2]; rfl) hd (K0 H locs L hH hS hL)
      · cases h
    case putfield idx =>
      have hok2 := hok
      simp only [bOI, Bool.and_eq_true, decide_eq_true_eq] at hok2
      obtain ⟨⟨⟨⟨⟨rfl, ha⟩, hb2⟩, hin⟩, hdec⟩, hty⟩ := hok2
      have hw := bWd_in hin
      have hnm : meth.name = "<init>" := by
        rcases hini with q | q | q
        · exact absurd (hno (Or.inl q) _ (zLk_mem hq)) (by simp)
        · exact absurd (hno (Or.inr q) _ (zLk_mem hq)) (by simp)
        · exact q
      obtain ⟨w, x, r, rfl, h⟩ := oVR_e h
      obtain ⟨fs, hs0, h⟩ := oO_e h
      obtain ⟨hf, h⟩ := oIf_e h
      obtain ⟨hf, hl⟩ := Bool.and_eq_true_iff.mp hf
      have hl := of_decide_eq_true hl
      obtain ⟨C0, T0, N0, ty0, e1, e2, e3, e4, e5, e6⟩ := zCls a ha
      have hft : zFt a b = T0 b := by unfold zFt; rw [e2]
      rw [hft] at hw hty hdec
      have hbN : b < N0 := by rw [← e3]; exact hb2
      obtain ⟨ty, t1, t2, t3⟩ := bTyP (ad := ad) hty hf
      obtain ⟨q1, q2, q3, q4⟩ := bI h
      subst q1
      subst q2
      subst q3
      subst q4
      intro H locs L hH hS hL
      have hl2 : b < (fs.map (zCv (zAd (zEa E ad)))).length := by rw [List.length_map]; exact hl
      have key : ∀ (H1 : Heap) (locs1 : List Loc), va_P E.1 vwCl ((bWs (zEa E ad) M).set x (ad x, .inr (a, (fs.map (zCv (zAd (zEa E ad)))).set b (zCv ad w)))) H1 → va_D (zA E) ((bWs (zEa E ad) M).set x (ad x, .inr (a, (fs.map (zCv (zAd (zEa E ad)))).set b (zCv ad w)))) → va_S (zA E) s.heap H1 locs1 → W p l e R s m args below meth c H1 locs1 (M.length - m0) (bSz M - s0) Z (F0 m (pc + 3) L (r.map (zCv ad))) := by
        intro H1 locs1 hP1 hD1 hS1
        have e7 : (fs.map (zCv (zAd (zEa E ad)))).set b (zCv ad w) = (fs.set b w).map (zCv (zAd (zEa E ad))) := by rw [List.map_set]; rfl
        rw [e7] at hP1 hD1
        have hk := K0 H1 locs1 L (bUp (c1 := .inr (.inr (a, fs.set b w))) hs0 (Nat.le_trans hbase hS1.1) hP1 hD1) hS1 hL
        rw [List.length_set, bSz_set (c := .inr (.inr (a, fs.set b w))) hs0 (List.length_set ..)] at hk
        exact hk
      by_cases hfin : (T0 b).2.2.2 = true
      · exact va_putF hx hb htz e4 ty0 e5 e6 hown hK hH.1 hH.2.1 hS x (bWs_at1 hs0) e1 b hbN (htz _ hw) (fun _ q => q) hfin hnm hdec t1 t2 t3 hl2 hd key
      · exact va_put hx hb htz e4 ty0 e5 e6 hown hK hH.1 hH.2.1 hS x (bWs_at1 hs0) e1 b hbN (htz _ hw) (fun _ q => q) (Bool.eq_false_iff.mpr hfin) t1 t2 t3 hl2 hd key
    case new idx =>
      have hok2 := hok
      simp only [bOI, Bool.and_eq_true, decide_eq_true_eq] at hok2
      obtain ⟨⟨⟨⟨rfl, ha⟩, hw1⟩, hw2⟩, hw3⟩ := hok2
      obtain ⟨h0, h⟩ := oIf_e h
      simp only [bAl, bOk, Bool.and_eq_true, decide_eq_true_eq] at h0
      obtain ⟨⟨⟨⟨hM, hst⟩, hls⟩, hc1⟩, hc2⟩ := h0
      obtain ⟨q1, q2, q3, q4⟩ := bI h
      subst q1
      subst q2
      subst q3
      subst q4
      intro H locs L hH hS hL
      refine bNew_go hx hb hown htz hK hbase hA ha (bWd_in hw1) (bWd_in hw2) (bWd_in hw3) hM (by omega) (by omega) hd hH hS (fun q H1 hH1 hS1 => ?_)
      have hag := bAd_ag ad M.length q
      have hk := K (bAd ad M.length q) hag H1 locs L hH1 hS1 (by rw [bCl_ag hag ls hls]; exact hL)
      rw [List.map_cons, bCvs_ag hag st hst, List.length_append, bSz_push] at hk
      rw [show zCv (bAd ad M.length q) (.ref M.length) = .ref q from by show Value.ref _ = _; rw [show bAd ad M.length q M.length = q from if_pos rfl]] at hk
      rw [bLen0 _ _ _ hm, bLen0 _ _ _ hs]
      exact hk
    case newarray t =>
      have hok2 := hok
      simp only [bOI, Bool.and_eq_true, decide_eq_true_eq] at hok2
      obtain ⟨⟨rfl, hty⟩, hw1⟩ := hok2
      obtain ⟨x, r, rfl, h⟩ := oI1_e h
      obtain ⟨h0, h⟩ := oIf_e h
      simp only [bAl, bOk, Bool.and_eq_true, decide_eq_true_eq] at h0
      obtain ⟨⟨⟨⟨⟨⟨hM, hst⟩, hls⟩, hc1⟩, hc2⟩, hx0⟩, hx1⟩ := h0
      obtain ⟨q1, q2, q3, q4⟩ := bI h
      subst q1
      subst q2
      subst q3
      subst q4
      intro H locs L hH hS hL
      have key : ∀ (q : Nat) (H1 : Heap) (cA : ClassId) (a0 : vp_A), (∀ ad1, bCo (zEa E ad1) (.inl (a, x.toNatClampNeg, fun _ => 0)) = .inl (cA, a0)) → va_P E.1 vwCl (bWs (zEa E ad) M ++ [(q, .inl (cA, a0))]) H1 → va_D (zA E) (bWs (zEa E ad) M ++ [(q, .inl (cA, a0))]) → va_S (zA E) s.heap H1 locs → W p l e R s m args below meth c H1 locs (M.length - m0 + 1) (bSz M - s0 + x.toNatClampNeg) Z (F0 m (pc + 2) L (.ref q :: r.map (zCv ad))) := by
        intro q H1 cA a0 hco hP1 hD1 hS1
        have hag := bAd_ag ad M.length q
        have e9 := bWs_push (E := E) (ad := ad) (q := q) (c := .inl (a, x.toNatClampNeg, fun _ => 0)) hM
        rw [hco] at e9
        have hk := K (bAd ad M.length q) hag H1 locs L ⟨by rw [e9]; exact hP1, by rw [e9]; exact hD1, Nat.le_trans hbase hS1.1⟩ hS1 (by rw [bCl_ag hag ls hls]; exact hL)
        rw [List.map_cons, bCvs_ag hag r hst, List.length_append, bSz_push] at hk
        rw [show zCv (bAd ad M.length q) (.ref M.length) = .ref q from by show Value.ref _ = _; rw [show bAd ad M.length q M.length = q from if_pos rfl]] at hk
        rw [bLen0 _ _ _ hm, bLen0 _ _ _ hs]
        exact hk
      rcases bTyA hty with ⟨rfl, rfl⟩ | ⟨rfl, rfl⟩ | ⟨rfl, rfl⟩
      · refine va_newa (atype := .int) (a0 := (x.toNatClampNeg, .inl (fun _ => 0))) hx hb (htz _ (bWd_in hw1)) rfl hK hH.1 hH.2.1 hS hA (fun _ => rfl) hx0 rfl (Nat.le_trans (Nat.mul_le_mul_right _ hx1) (by decide)) (by omega) (by omega) hd (fun q cA H1 hK1 hP1 hD1 hS1 => ?_)
        have ec : cA = E.2.1 0 := Option.some.inj ((hK1.2 4 _ rfl).2.symm.trans (hK.2 0 _ rfl).2)
        subst ec
        exact key q H1 _ _ (fun _ => rfl) hP1 hD1 hS1
      · refine va_newa (atype := .byte) (a0 := (x.toNatClampNeg, .inl (fun _ => 0))) hx hb (htz _ (bWd_in hw1)) rfl hK hH.1 hH.2.1 hS hA (fun _ => rfl) hx0 rfl (Nat.le_trans (Nat.mul_le_mul_right _ hx1) (by decide)) (by omega) (by omega) hd (fun q cA H1 hK1 hP1 hD1 hS1 => ?_)
        have ec : cA = E.2.1 1 := Option.some.inj ((hK1.2 4 _ rfl).2.symm.trans (hK.2 1 _ rfl).2)
        subst ec
        exact key q H1 _ _ (fun _ => rfl) hP1 hD1 hS1
      · refine va_newa (atype := .long) (a0 := (x.toNatClampNeg, .inr (.inl (fun _ => (0 : Int32).toInt64)))) hx hb (htz _ (bWd_in hw1)) rfl hK hH.1 hH.2.1 hS hA (fun cA => by rw [vp_cell_l, show (0 : Int32).toInt64 = 0 from by decide]; rfl) hx0 rfl (Nat.le_trans (Nat.mul_le_mul_right _ hx1) (by decide)) (by omega) (by omega) hd (fun q cA H1 hK1 hP1 hD1 hS1 => ?_)
        have ec : cA = E.2.1 2 := Option.some.inj ((hK1.2 4 _ rfl).2.symm.trans (hK.2 2 _ rfl).2)
        subst ec
        exact key q H1 _ _ (fun _ => rfl) hP1 hD1 hS1
    case anewarray idx =>
      have hok2 := hok
      simp only [bOI, Bool.and_eq_true, decide_eq_true_eq] at hok2
      obtain ⟨rfl, hw1⟩ := hok2
      obtain ⟨x, r, rfl, h⟩ := oI1_e h
      obtain ⟨h0, h⟩ := oIf_e h
      simp only [bAl, bOk, Bool.and_eq_true, decide_eq_true_eq] at h0
      obtain ⟨⟨⟨⟨⟨⟨hM, hst⟩, hls⟩, hc1⟩, hc2⟩, hx0⟩, hx1⟩ := h0
      obtain ⟨q1, q2, q3, q4⟩ := bI h
      subst q1
      subst q2
      subst q3
      subst q4
      intro H locs L hH hS hL
      refine va_newq (C := RX1) hx hb hown (htz _ (bWd_in hw1)) hN.1 hK hH.1 hH.2.1 hS hA hx0 rfl (Nat.le_trans (Nat.mul_le_mul_right _ hx1) (by decide)) (by omega) (by omega) hd (fun q cA H1 hK1 hP1 hD1 hS1 => ?_)
      have ec : cA = E.2.1 3 := by
        obtain ⟨_, _, _, _, _, g1⟩ := (hK1.2 4 _ rfl).2
        obtain ⟨_, _, _, _, _, g2⟩ := (hK.2 3 _ rfl).2
        exact Option.some.inj (g1.symm.trans g2)
      subst ec
      have hag := bAd_ag ad M.length q
      have e9 := bWs_push (E := E) (ad := ad) (q := q) (c := .inr (.inl (List.replicate x.toNatClampNeg none))) hM
      have e10 : bCo (zEa E (bAd ad M.length q)) (.inr (.inl (List.replicate x.toNatClampNeg none))) = .inl (E.2.1 3, (x.toNatClampNeg, .inr (.inr (.inr (.inr (fun _ => none)))))) := by
        have e11 : (fun i => ((List.replicate x.toNatClampNeg (none : Option Nat)).getD i none).map (zAd (zEa E (bAd ad M.length q)))) = fun _ => none := by
          funext i
          rw [List.getD_eq_getElem?_getD, List.getElem?_replicate]
          split <;> rfl
        show Sum.inl (E.2.1 3, ((List.replicate x.toNatClampNeg (none : Option Nat)).length, Sum.inr (Sum.inr (Sum.inr (Sum.inr (fun i => ((List.replicate x.toNatClampNeg (none : Option Nat)).getD i none).map (zAd (zEa E (bAd ad M.length q))))))))) = _
        rw [e11, List.length_replicate]
      rw [e10] at e9
      have hk := K (bAd ad M.length q) hag H1 locs L ⟨by rw [e9]; exact hP1, by rw [e9]; exact hD1, Nat.le_trans hbase hS1.1⟩ hS1 (by rw [bCl_ag hag ls hls]; exact hL)
      rw [List.map_cons, bCvs_ag hag r hst, List.length_append, bSz_push] at hk
      rw [show zCv (bAd ad M.length q) (.ref M.length) = .ref q from by show Value.ref _ = _; rw [show bAd ad M.length q M.length = q from if_pos rfl]] at hk
      rw [show bS (.inr (.inl (List.replicate x.toNatClampNeg none))) = x.toNatClampNeg from List.length_replicate] at hk
      rw [bLen0 _ _ _ hm, bLen0 _ _ _ hs]
      exact hk
    case invokespecial idx =>
      have hok2 := hok
      simp only [bOI, Bool.and_eq_true, decide_eq_true_eq] at hok2
      obtain ⟨rfl, hlk⟩ := hok2
      cases k with
      | zero =>
        obtain ⟨x, r, rfl, h⟩ := oR1_e h
        obtain ⟨hr, h⟩ := oIf_e h
        have hr := of_decide_eq_true hr
        have hlk := of_decide_eq_true hlk
        obtain ⟨q1, q2, q3, q4⟩ := bI h
        subst q1
        subst q2
        subst q3
        subst q4
        intro H locs L hH hS hL
        have h8 := lv_room (m := m) (pc := pc) (ls := L) (rest := .ref (ad x) :: r.map (zCv ad)) (zRest (E := zEa E ad) r hr)
        refine W.objInit hx hb hown (htz _ (bWd_in hlk)) (htz _ (bWd_in bOb_ok.1)) (htz _ (bWd_in bOb_ok.2)) rfl (by rw [hml]; exact hL.1) rfl hd (by omega) (Nat.le_trans (Nat.add_le_add_right h8 12) (by omega)) ?_
        exact W.eq rfl (K0 H locs L hH hS hL)
      | succ k =>
        obtain ⟨x, r, rfl, h⟩ := oR1_e h
        obtain ⟨h0, h⟩ := oIf_e h
        simp only [bOk, Bool.and_eq_true, decide_eq_true_eq] at h0
        obtain ⟨⟨⟨⟨hM, hst⟩, hls⟩, hr⟩, ha⟩ := h0
        unfold bCl at h
        split at h
        · rename_i M2 hcall
          obtain ⟨h0, h⟩ := oIf_e h
          simp only [Bool.and_eq_true, decide_eq_true_eq] at h0
          obtain ⟨⟨⟨⟨hy, c1⟩, c2⟩, c3⟩, c4⟩ := h0
          obtain ⟨q1, q2, q3, q4⟩ := bI h
          subst q1
          subst q2
          subst q3
          subst q4
          intro H locs L hH hS hL
          have hst2 : r.all (bRf M.length) = true := by
            simp only [List.all_cons, Bool.and_eq_true] at hst
            exact hst.2
          obtain ⟨g1, g2, g3, g4, g5, g6, g7, -, g9, -⟩ := bMw hy
          obtain ⟨g10, g11⟩ := g9 (by omega)
          have hMt := hC a [.ref x] M M2 ad hy hcall
          have g4' : (parseMethodDescriptor (bY a).desc).map (fun d => d.parameters.length) = some 0 := by
            rw [g4, if_neg (by omega)]
          have hroom : (bRm d a).frames + 1 ≤ R.frames ∧ 8 + (bMx a + 11) + (bRm d a).locals ≤ R.locals := ⟨by show d + 2 + 1 ≤ _; omega, bRl g3 hRl⟩
          have hcs : M.length - m0 + bKc a ≤ R.cells ∧ bSz M - s0 + bKs a ≤ R.slots := ⟨by omega, by omega⟩
          have h8 := lv_room (m := m) (pc := pc) (ls := L) (rest := .ref (ad x) :: r.map (zCv ad)) (zRest (E := zEa E ad) r hr)
          cases k with
          | zero =>
            have hlk := of_decide_eq_true hlk
            exact bCall_go (va_runIN (As := []) (b := ad x) ⟨hx, hb, hml, hown, hts⟩ hMt ⟨va_cnB 0 hts (bGood hy) rfl rfl rfl (hN.2 _ hlk) (htz _ g2) ⟨g6.1, g6.2, g4'⟩ hroom, g10, htz _ g11⟩ (bPs hK hN [.ref x] hH) rfl rfl hL.1 rfl h8 hd hcs) hS hls hst2 hL (by omega) (by omega) K
          | succ k =>
            have hlk := bWd_in (of_decide_eq_true hlk)
            exact bCall_go (va_runI (As := []) (b := ad x) ⟨hx, hb, hml, hown, hts⟩ hMt ⟨callB_of 0 hts (bGood hy) rfl rfl rfl (htz _ g2) (htz _ hlk) ⟨g6.1, g6.2, g4'⟩ hroom, g10, htz _ g11⟩ (bPs hK hN [.ref x] hH) rfl rfl hL.1 rfl h8 hd hcs) hS hls hst2 hL (by omega) (by omega) K
        · cases h
    case invokestatic idx =>
      have hok2 := hok
      simp only [bOI, Bool.and_eq_true, decide_eq_true_eq] at hok2
      obtain ⟨rfl, hlk⟩ := hok2
      have hlk := bWd_in hlk
      obtain ⟨w, x, r, rfl, h⟩ := oIR_e h
      obtain ⟨h0, h⟩ := oIf_e h
      simp only [bOk, Bool.and_eq_true, decide_eq_true_eq] at h0
      obtain ⟨⟨⟨hM, hst⟩, hls⟩, hr⟩ := h0
      unfold bCl at h
      split at h
      · rename_i M2 hcall
        obtain ⟨h0, h⟩ := oIf_e h
        simp only [Bool.and_eq_true, decide_eq_true_eq] at h0
        obtain ⟨⟨⟨⟨hy, c1⟩, c2⟩, c3⟩, c4⟩ := h0
        obtain ⟨q1, q2, q3, q4⟩ := bI h
        subst q1
        subst q2
        subst q3
        subst q4
        intro H locs L hH hS hL
        have hst2 : r.all (bRf M.length) = true := by
          simp only [List.all_cons, Bool.and_eq_true] at hst
          exact hst.2.2
        obtain ⟨g1, g2, g3, g4, g5, g6, g7, g8, -, -⟩ := bMw hy
        have hMt := hC 12 [.ref x, .int w] M M2 ad hy hcall
        have hroom : (bRm d 12).frames + 1 ≤ R.frames ∧ 8 + (bMx 12 + 11) + (bRm d 12).locals ≤ R.locals := ⟨by show d + 2 + 1 ≤ _; omega, bRl g3 hRl⟩
        have hcs : M.length - m0 + bKc 12 ≤ R.cells ∧ bSz M - s0 + bKs 12 ≤ R.slots := ⟨by omega, by omega⟩
        have h8 := lv_room (m := m) (pc := pc) (ls := L) (rest := .int w :: .ref (ad x) :: r.map (zCv ad)) (zRest (E := zEa E ad) r hr)
        exact bCall_go (va_runS (As := [.ref (ad x), .int w]) ⟨hx, hb, hml, hown, hts⟩ hMt ⟨callB_of 2 hts (bGood hy) rfl rfl rfl (htz _ g2) (htz _ hlk) ⟨g6.1, g6.2, g4⟩ hroom, htz _ (g8 rfl)⟩ (bPs hK hN [.ref x, .int w] hH) rfl rfl hL.1 rfl h8 hd hcs) hS hls hst2 hL (by omega) (by omega) K
      · cases h
theorem bRun_sound (hx : p.tables.exec = Jvm.exec) (hb : c.code = cc) (hml : c.maxLocals = nL) (hown : s.vm.findClass (zOwn own) = some m.cls) (hts : ∀ w ∈ yTS, w.before args s = true) (hK : va_K E.1 vwCl (zTys E) s) (hN : bNx s) (hbase : E.2.2.2 ≤ s.heap.size) (hA : ∀ q, s.heap.size ≤ q → zA E q) {cd : zCd} (hcd : ∀ (pc : Nat) (x : zIn), zLk cd pc = some x → decode cc pc = .ok (x.1, x.2.1) ∧ bOI own nL x = true) (hini : own = 15 ∨ own = 13 ∨ meth.name = "<init>") (hno : own = 15 ∨ own = 13 → ∀ x ∈ cd, (match x.2.1 with
      | .putfield _ => false
      | _ => true) = true) {mx sx : Nat} (hRf : d + 3 ≤ R.frames) (hRl : 64 * d + 128 ≤ R.locals) (hRc : mx - m0 ≤ R.cells) (hRs : sx - s0 ≤ R.slots)
    {call : Nat → List Value → List bC → Option (List bC)} (hC : ∀ (y : Nat) (as : List Value) (M M1 : List bC) (ad : Nat → Nat), y < 13 → call y as M = some M1 → bMet l E d y as M M1 ad) {stop : Nat} {ls1 : zLs} {st1 : List Value} {M1 : List bC} : ∀ (n pc : Nat) (ls : zLs) (st : List Value) (M : List bC), bRun call cd mx sx stop n pc ls st M = some (ls1, st1, M1) → m0 ≤ M.length → s0 ≤ bSz M → ∀ ad : Nat → Nat, (∀ ad1, bAg M ad ad1 → m0 ≤ M1.length → s0 ≤ bSz M1 → bP p l e R s m args below meth c Z nL E m0 s0 ad1 stop ls1 st1 M1) → bP p l e R s m args below meth c Z nL E m0 s0 ad pc ls st M
  | 0, _, _, _, _, h, _, _, _, _ => by cases h
  | n + 1, pc, ls, st, M, h, hm, hs, ad, K => by
    unfold bRun at h
    split at h
    · rename_i he
      have e := Nat.eq_of_beq_eq_true he
      subst e
      cases h
      exact K ad (fun _ _ => rfl) hm hs
    · split at h
      · rename_i pc2 ls2 st2 M2 hst
        obtain ⟨h0, h⟩ := oIf_e h
        simp only [Bool.and_eq_true, decide_eq_true_eq] at h0
        refine bSt_sound hx hb hml hown hts hK hN hbase hA hcd hini hno hRf hRl hRc hRs hC hst hm hs ad (fun ad1 hag => ?_)
        exact bRun_sound hx hb hml hown hts hK hN hbase hA hcd hini hno hRf hRl hRc hRs hC n pc2 ls2 st2 M2 h (Nat.le_trans hm h0.1) (Nat.le_trans hs h0.2) ad1 (fun ad2 hag2 => K ad2 (fun k hk => (hag2 k (Nat.lt_of_lt_of_le hk h0.1)).trans (hag k hk)))
      · cases h
end BW
theorem bTk {y : Nat} (hy : y < 13) {pc : Nat} {x : zIn} (h : zLk (bCd y) pc = some x) : decode (bBy y) pc = .ok (x.1, x.2.1) ∧ bOI (bOw y) (bMx y) x = true := by
  have hy2 : y < bTb.length := hy
  have e : bT y = bTb[y] := by unfold bT; rw [List.getD_eq_getElem?_getD, List.getElem?_eq_getElem hy2]; rfl
  have h1 := List.all_eq_true.mp (List.all_eq_true.mp bTk_ok (bT y) (by rw [e]; exact List.getElem_mem hy2)) _ (zLk_mem h)
  simp only [Bool.and_eq_true, decide_eq_true_eq] at h1
  exact h1
theorem bNo_ok : ((List.range 13).all fun y => (!(bOw y == 15) && !(bOw y == 13)) || (bCd y).all fun x => match x.2.1 with
      | .putfield _ => false
      | _ => true) = true := by decide +kernel
theorem bOw_ok : ((List.range 13).all fun y => decide (y = 12) || (!(bOw y == 15) && !(bOw y == 13))) = true := by decide +kernel
set_option maxRecDepth 100000 in
set_option maxHeartbeats 4000000 in
theorem bCall_met (l : Launch) (E : zE) : ∀ (d y : Nat) (as : List Value) (M M1 : List bC) (ad : Nat → Nat), y < 13 → bCall d y as M = some M1 → bMet l E d y as M M1 ad
  | 0, _, _, _, _, _, _, h => by cases h
  | d + 1, y, as, M, M1, ad, hy, h => by
    unfold bCall at h
    obtain ⟨h0, h⟩ := oIf_e h
    simp only [Bool.and_eq_true, decide_eq_true_eq, Bool.not_eq_true', decide_eq_false_iff_not] at h0
    obtain ⟨⟨⟨hcat, hlen⟩, -⟩, hn⟩ := h0
    unfold bEnd at h
    split at h
    · rename_i ls1 M2 hrun
      obtain ⟨h0, h⟩ := oIf_e h
      simp only [Bool.and_eq_true, decide_eq_true_eq] at h0
      obtain ⟨c1, c2⟩ := h0
      cases h
      obtain ⟨g1, g2, g3, g4, g5, g6, g7, g8, g9, g10⟩ := bMw hy
      unfold bMet
      refine Met.ofW (cc := bBy y) (maxL := bMx y) (ret := none) g5 rfl ?_
      intro p e s m args below meth c s₁ B hml hv
      obtain ⟨rfl, hK, hH, hN⟩ := hv
      have hx := B.exec
      have hb := B.bytes
      have hr := B.returns
      have hts0 := atoms_spec (ws := bW y) B.pre
      have hts : ∀ w ∈ yTS, w.before (as.map (zCv ad)).toArray s = true := fun w hw => hts0 w (List.mem_cons_of_mem _ hw)
      have hown : s.vm.findClass (zOwn (bOw y)) = some m.cls := by
        rw [g7]
        exact findClass_of_methodNamed B.named
      have hlocks := B.notSynchronized
      have hnm : y ≠ 12 → meth.name = "<init>" := fun q => by
        rw [(name_of_methodNamed B.named B.method).1]
        exact (g9 q).1
      have hini : bOw y = 15 ∨ bOw y = 13 ∨ meth.name = "<init>" := by
        by_cases q : y = 12
        · subst q
          exact Or.inl rfl
        · exact Or.inr (Or.inr (hnm q))
      have hno : bOw y = 15 ∨ bOw y = 13 → ∀ x ∈ bCd y, (match x.2.1 with
        | .putfield _ => false
        | _ => true) = true := by
        intro q
        have h1 := List.all_eq_true.mp bNo_ok y (List.mem_range.mpr hy)
        simp only [Bool.or_eq_true, Bool.and_eq_true, Bool.not_eq_true', beq_eq_false_iff_ne] at h1
        rcases h1 with h1 | h1
        · rcases q with q | q
          · exact absurd q h1.1
          · exact absurd q h1.2
        · exact List.all_eq_true.mp h1
      have hl := lv_entry (as.map (zCv ad)) (n := bMx y) (by rw [zSl_len _ (zCat_map _ _ hcat), List.length_map]; exact hlen)
      rw [lg_entry_eq]
      generalize (lg_sl (as.map (zCv ad)) ++ List.replicate (bMx y - (lg_sl (as.map (zCv ad))).length) Slot.unset).toArray = ls at hl ⊢
      rw [zArgs_map] at hl
      have hA : ∀ q, s.heap.size ≤ q → zA E q := fun q hq => Nat.le_trans hH.2.2 hq
      have K : ∀ ad1 : Nat → Nat, bAg M ad ad1 → M.length ≤ M1.length → bSz M ≤ bSz M1 → bP p l e (headSpec (bW y) (bRm (d + 1) y)).room s m (as.map (zCv ad)).toArray below meth c (MQ below (va_Qv (bAg M ad) (bE2 E M1) (zA E)) (as.map (zCv ad)).toArray s (bKc y) (bKs y) (zA E)) (bMx y) E M.length (bSz M) ad1 (bSp y) ls1 [] M1 := by
        intro ad1 hag _ _ H locs L hH1 hS1 hL1
        rw [c1, c2, show M.length + bKc y - M.length = bKc y by omega, show bSz M + bKs y - bSz M = bKs y by omega]
        exact W.vret hx hb hr (fun t ht hW => ⟨⟨ad1, rfl, hag, va_K.moved hW.alike hK, by rw [ht]; exact hH1⟩, hS1.F ht⟩) hS1.2.2 (g10 hn) hlocks
      have key := bRun_sound (d := d) hx hb hml hown hts hK hN hH.2.2 hA (fun pc x q => bTk hy q) hini hno (mx := M.length + bKc y) (sx := bSz M + bKs y) (by show d + 3 ≤ d + 1 + 2; omega) (by show 64 * d + 128 ≤ 64 * (d + 1) + 64; omega) (by show M.length + bKc y - M.length ≤ bKc y; omega) (by show bSz M + bKs y - bSz M ≤ bKs y; omega) (fun y2 as2 M3 M4 ad2 hy2 hc2 => bCall_met l E d y2 as2 M3 M4 ad2 hy2 hc2) 4000 0 _ _ _ hrun (Nat.le_refl _) (Nat.le_refl _) ad K s.heap [] ls hH va_S.rf hl
      rw [Nat.sub_self, Nat.sub_self] at key
      exact key
    · cases h
