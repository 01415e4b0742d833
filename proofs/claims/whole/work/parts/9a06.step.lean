def yP0 (p : Program) (l : Launch) (e : Env) (R : Room) (s : State) (m : MethodId) (args : Array Value) (below : List Frame) (meth : Method) (c : Code) (cells slots : Nat) (Z : State → Prop) (nL nn : Nat) (E : zE) : Nat → zLs → List Value → zM → Prop := fun pc ls st u => ∀ (H : Heap) (locs : List Loc) (L : Array Slot), yH nn E u H → va_S (zA E) s.heap H locs → lv_has L nL (zCl (zAd E) ls) → W p l e R s m args below meth c H locs cells slots Z (F0 m pc L (st.map (zCv (zAd E))))
theorem o_length {own idx : Nat} (h : (own, idx) ∈ zLns) : jOk (zOwn own) idx yJ0_length_8abf5 cJ0_length_8abf5 1 (some .int) 0 := ⟨by
  have h2 : ∀ q ∈ zLns, Jvm.Cond.methodLink (zOwn q.1) q.2 yJ0_length_8abf5 ∈ zTS := by
    intro q hq
    rcases List.mem_cons.mp hq with rfl | hq
    · exact (List.mem_append_left _ (zWq_in (q := 439) (by decide +kernel)))
    · rcases List.mem_cons.mp hq with rfl | hq
      · exact (List.mem_append_left _ (zWq_in (q := 279) (by decide +kernel)))
      · cases hq
  exact h2 _ h, (List.mem_append_left _ (zWq_in (q := 283) (by decide +kernel))), (List.mem_append_left _ (zWq_in (q := 282) (by decide +kernel))), by decide +kernel, by decide⟩
theorem o_charAt {own idx : Nat} (h : (own, idx) ∈ zChs) : jOk (zOwn own) idx yJ0_charAt_5068e cJ0_charAt_5068e 2 (some .char) 1 := ⟨by
  have h2 : ∀ q ∈ zChs, Jvm.Cond.methodLink (zOwn q.1) q.2 yJ0_charAt_5068e ∈ zTS := by
    intro q hq
    rcases List.mem_cons.mp hq with rfl | hq
    · exact (List.mem_append_left _ (zWq_in (q := 440) (by decide +kernel)))
    · rcases List.mem_cons.mp hq with rfl | hq
      · exact (List.mem_append_left _ (zWq_in (q := 291) (by decide +kernel)))
      · cases hq
  exact h2 _ h, (List.mem_append_left _ (zWq_in (q := 294) (by decide +kernel))), (List.mem_append_left _ (zWq_in (q := 282) (by decide +kernel))), by decide +kernel, by decide⟩
theorem o_lenI : Jvm.Cond.instanceMethod yJ0_length_8abf5 ∈ zTS := (List.mem_append_left _ (zWq_in (q := 280) (by decide +kernel)))
theorem o_lenS : Jvm.Cond.selects RJ0 yJ0_length_8abf5 yJ0_length_8abf5 ∈ zTS := (List.mem_append_left _ (zWq_in (q := 281) (by decide +kernel)))
theorem o_chI : Jvm.Cond.instanceMethod yJ0_charAt_5068e ∈ zTS := (List.mem_append_left _ (zWq_in (q := 292) (by decide +kernel)))
theorem o_chS : Jvm.Cond.selects RJ0 yJ0_charAt_5068e yJ0_charAt_5068e ∈ zTS := (List.mem_append_left _ (zWq_in (q := 293) (by decide +kernel)))
section YS
variable {p : Program} {l : Launch} {e : Env} {R : Room} {s : State} {m : MethodId} {args : Array Value} {below : List Frame} {meth : Method} {c : Code} {cells slots : Nat} {Z : State → Prop} {cc : ByteArray} {nL nn : Nat} {bb : Bool} {E : zE}
set_option maxRecDepth 100000 in
set_option maxHeartbeats 4000000 in
theorem yStep_sound (hx : p.tables.exec = Jvm.exec) (hb : c.code = cc) (hml : c.maxLocals = nL) {own : Nat} (hown : s.vm.findClass (zOwn own) = some m.cls) (ho13 : own ≠ 13) (hsb : ySb own bb = true) (hnn : nn = 143 ∨ nn = 142) (hts : ∀ w ∈ yTS, w.before args s = true) (hK : va_K E.1 vwCl (zTys E) s) (hbase : E.2.2.2 ≤ s.heap.size) (hst : yX bb E s s.heap) {cd : zCd} (hcd : ∀ (pc : Nat) (x : zIn), zLk cd pc = some x → decode cc pc = .ok (x.1, x.2.1) ∧ zOkI own nL x = true ∧ ySd own x = true ∧ (nn = 143 ∨ yEnt x = true)) {d : Nat} (hRf : d + 9 ≤ R.frames) (hRl : 64 * d + 664 ≤ R.locals) (hcs : cells ≤ R.cells ∧ slots ≤ R.slots)
    {τ : Bool} {rb : Nat} {Q : Option Value → zM → Prop} {C : Bool → Nat → List Value → zM → (Option Value → zM → Prop) → Prop} (hC : ∀ (y : Nat) (as : List Value) (u : zM) (Q : Option Value → zM → Prop), y < 363 → zOo y ≠ 13 → ySb (zOo y) bb = true → (nn = 143 ∨ yS.contains y = true) → C false y as u Q → Met l (zY y) (yW y) (zRm d) (va_Pc (as.map (zCv (zAd E))) (yBi nn bb E u)) (yQ nn E Q) 0 0 (zA E))
    (hTV : τ = true → ∀ {idx y pc x : Nat} {as r : List Value} {u : zM} {H : Heap} {locs : List Loc} {L : Array Slot}, (own, idx, y) ∈ zMls → zOo y ≠ 13 → ySb (zOo y) bb = true → (nn = 143 ∨ yS.contains y = true) → zRc y < 12 → zShapes[x]? = some (.inl (zRc y)) → r.length ≤ 4 → as.length = zNa y → C true y (.ref x :: as) u Q → yH nn E u H → va_S (zA E) s.heap H locs → L.size = nL → decode cc pc = .ok (.invokevirtual idx, 3) → W p l e R s m args below meth c H locs cells slots Z (F0 m pc L ((as.reverse ++ .ref x :: r).map (zCv (zAd E)))))
    (hTS : τ = true → ∀ {idx y pc : Nat} {as r : List Value} {u : zM} {H : Heap} {locs : List Loc} {L : Array Slot}, (own, idx, y) ∈ zMls → zOo y ≠ 13 → ySb (zOo y) bb = true → (nn = 143 ∨ yS.contains y = true) → zRc y = 99 → r.length ≤ 4 → as.length = zNa y → C true y as u Q → yH nn E u H → va_S (zA E) s.heap H locs → L.size = nL → decode cc pc = .ok (.invokestatic idx, 3) → W p l e R s m args below meth c H locs cells slots Z (F0 m pc L ((as.reverse ++ r).map (zCv (zAd E)))))
    (hret : τ = false → ∀ (v : Int32) (u : zM) (H : Heap) (locs : List Loc) (L : Array Slot) (pc : Nat), decode cc pc = .ok (.ireturn, 1) → (rb = 1 ∨ (rb = 2 ∧ (v = 0 ∨ v = 1))) → Q (some (.int v)) u → yH nn E u H → va_S (zA E) s.heap H locs → W p l e R s m args below meth c H locs cells slots Z (F0 m pc L [.int v]))
    (hretv : τ = false → ∀ (u : zM) (H : Heap) (locs : List Loc) (L : Array Slot) (pc : Nat), decode cc pc = .ok (.return_, 1) → rb = 0 → Q none u → yH nn E u H → va_S (zA E) s.heap H locs → W p l e R s m args below meth c H locs cells slots Z (F0 m pc L []))
    {pc : Nat} {ls : zLs} {st : List Value} {u : zM} (hnew : τ = true → ∀ {ik n a b k : Nat} {v : Int32}, zLk cd pc = some (.new ik, n, a, b, k, v) → Q (some (.int v)) u → yP0 p l e R s m args below meth c cells slots Z nL nn E pc ls st u)
    (h : zStep C cd rb τ (yP0 p l e R s m args below meth c cells slots Z nL nn E) Q pc ls st u) : (yP0 p l e R s m args below meth c cells slots Z nL nn E) pc ls st u := by
  have hts2 : ∀ w ∈ zTS, w.before args s = true := yts hts
  unfold zStep at h
  cases hq : zLk cd pc with
  | none => rw [hq] at h; exact False.elim h
  | some x =>
    rw [hq] at h
    obtain ⟨hd, hok, hsd, hen⟩ := hcd pc x hq
    obtain ⟨i, n, a, b, k, v⟩ := x
    dsimp only at hd h
    cases i
    all_goals first | exact False.elim h | skip
    case iadd =>
      obtain rfl : n = 1 := by simpa [zOkI] using hok
      obtain ⟨y, x, r, rfl, h⟩ := zI2_e h
      intro H locs L hH hS hL
      exact lv_iadd hx hb hd (h H locs L hH hS hL)
    case isub =>
      obtain rfl : n = 1 := by simpa [zOkI] using hok
      obtain ⟨y, x, r, rfl, h⟩ := zI2_e h
      intro H locs L hH hS hL
      exact lv_isub hx hb hd (h H locs L hH hS hL)
    case imul =>
      obtain rfl : n = 1 := by simpa [zOkI] using hok
      obtain ⟨y, x, r, rfl, h⟩ := zI2_e h
      intro H locs L hH hS hL
      exact lv_imul hx hb hd (h H locs L hH hS hL)
    case iand =>
      obtain rfl : n = 1 := by simpa [zOkI] using hok
      obtain ⟨y, x, r, rfl, h⟩ := zI2_e h
      intro H locs L hH hS hL
      exact lv_iand hx hb hd (h H locs L hH hS hL)
    case ior =>
      obtain rfl : n = 1 := by simpa [zOkI] using hok
      obtain ⟨y, x, r, rfl, h⟩ := zI2_e h
      intro H locs L hH hS hL
      exact lv_ior hx hb hd (h H locs L hH hS hL)
    case ixor =>
      obtain rfl : n = 1 := by simpa [zOkI] using hok
      obtain ⟨y, x, r, rfl, h⟩ := zI2_e h
      intro H locs L hH hS hL
      exact lv_ixor hx hb hd (h H locs L hH hS hL)
    case ishl =>
      obtain rfl : n = 1 := by simpa [zOkI] using hok
      obtain ⟨y, x, r, rfl, h⟩ := zI2_e h
      intro H locs L hH hS hL
      exact lv_ishl hx hb hd (h H locs L hH hS hL)
    case ishr =>
      obtain rfl : n = 1 := by simpa [zOkI] using hok
      obtain ⟨y, x, r, rfl, h⟩ := zI2_e h
      intro H locs L hH hS hL
      exact lv_ishr hx hb hd (h H locs L hH hS hL)
    case iushr =>
      obtain rfl : n = 1 := by simpa [zOkI] using hok
      obtain ⟨y, x, r, rfl, h⟩ := zI2_e h
      intro H locs L hH hS hL
      exact lv_iushr hx hb hd rfl (h H locs L hH hS hL)
    case idiv =>
      obtain rfl : n = 1 := by simpa [zOkI] using hok
      obtain ⟨y, x, r, rfl, hne, h⟩ := zI2_e h
      intro H locs L hH hS hL
      exact lv_idiv hx hb hd hne (h H locs L hH hS hL)
    case irem =>
      obtain rfl : n = 1 := by simpa [zOkI] using hok
      obtain ⟨y, x, r, rfl, hne, h⟩ := zI2_e h
      intro H locs L hH hS hL
      exact lv_irem hx hb hd hne (h H locs L hH hS hL)
    case i2b =>
      obtain rfl : n = 1 := by simpa [zOkI] using hok
      obtain ⟨x, r, rfl, h⟩ := zI1_e h
      intro H locs L hH hS hL
      exact lv_i2b hx hb hd rfl (h H locs L hH hS hL)
    case i2l =>
      obtain rfl : n = 1 := by simpa [zOkI] using hok
      obtain ⟨x, r, rfl, h⟩ := zI1_e h
      intro H locs L hH hS hL
      exact lv_i2l hx hb hd rfl (h H locs L hH hS hL)
    case lcmp =>
      obtain rfl : n = 1 := by simpa [zOkI] using hok
      obtain ⟨y, x, r, rfl, h⟩ := zL2_e h
      intro H locs L hH hS hL
      exact W.lcmp hx hb hd (h H locs L hH hS hL)
    case dup =>
      obtain rfl : n = 1 := by simpa [zOkI] using hok
      obtain ⟨x, r, rfl, hc, h⟩ := zV1_e h
      intro H locs L hH hS hL
      exact lv_dup hx hb hd (by rw [zCv_cat]; exact hc) (h H locs L hH hS hL)
    case pop =>
      obtain rfl : n = 1 := by simpa [zOkI] using hok
      obtain ⟨x, r, rfl, hc, h⟩ := zV1_e h
      intro H locs L hH hS hL
      exact lv_pop hx hb hd (by rw [zCv_cat]; exact hc) (h H locs L hH hS hL)
    case dup2 =>
      obtain rfl : n = 1 := by simpa [zOkI] using hok
      obtain ⟨x, y, r, rfl, ⟨hc, hc2⟩, h⟩ := zV2_e h
      intro H locs L hH hS hL
      exact lv_dup2_11 hx hb hd (by rw [zCv_cat]; exact hc) (by rw [zCv_cat]; exact hc2) (h H locs L hH hS hL)
    case iload_n j =>
      obtain rfl : n = 1 := by simpa [zOkI] using hok
      obtain ⟨x, hg, h⟩ := zLi_e h
      intro H locs L hH hS hL
      exact lv_iload_n hx hb hd rfl (zCl_lk hL hg) (h H locs L hH hS hL)
    case iload j =>
      obtain rfl : n = 2 := by simpa [zOkI] using hok
      obtain ⟨x, hg, h⟩ := zLi_e h
      intro H locs L hH hS hL
      exact lv_iload hx hb hd (zCl_lk hL hg) (h H locs L hH hS hL)
    case aload_n j =>
      obtain rfl : n = 1 := by simpa [zOkI] using hok
      obtain ⟨x, hg, h⟩ := zLr_e h
      intro H locs L hH hS hL
      exact lv_aload_n hx hb hd rfl (zCl_lk hL hg) (h H locs L hH hS hL)
    case aload j =>
      obtain rfl : n = 2 := by simpa [zOkI] using hok
      obtain ⟨x, hg, h⟩ := zLr_e h
      intro H locs L hH hS hL
      exact lv_aload hx hb hd (zCl_lk hL hg) (h H locs L hH hS hL)
    case iconst z =>
      obtain ⟨rfl, hv⟩ : n = 1 ∧ Int32.ofInt z = v := by simpa [zOkI] using hok
      intro H locs L hH hS hL
      exact lv_iconst hx hb hd hv (h H locs L hH hS hL)
    case bipush z =>
      obtain ⟨rfl, hv⟩ : n = 2 ∧ (Int8.ofInt z).toInt32 = v := by simpa [zOkI] using hok
      intro H locs L hH hS hL
      exact lv_bipush hx hb hd hv (h H locs L hH hS hL)
    case sipush z =>
      obtain ⟨rfl, hv⟩ : n = 3 ∧ (Int16.ofInt z).toInt32 = v := by simpa [zOkI] using hok
      intro H locs L hH hS hL
      exact lv_sipush hx hb hd hv (h H locs L hH hS hL)
    case istore_n j =>
      obtain ⟨rfl, hj⟩ : n = 1 ∧ j.val < nL := by simpa [zOkI] using hok
      obtain ⟨x, r, rfl, h⟩ := zI1_e h
      intro H locs L hH hS hL
      exact lv_istore_n hx hb hd rfl hL hj (zCl_set (zAd E) ls _ (.int x)) (fun L2 hL2 => h H locs L2 hH hS hL2)
    case istore j =>
      obtain ⟨rfl, hj⟩ : n = 2 ∧ j < nL := by simpa [zOkI] using hok
      obtain ⟨x, r, rfl, h⟩ := zI1_e h
      intro H locs L hH hS hL
      exact lv_istore hx hb hd hL hj (zCl_set (zAd E) ls _ (.int x)) (fun L2 hL2 => h H locs L2 hH hS hL2)
    case astore_n j =>
      obtain ⟨rfl, hj⟩ : n = 1 ∧ j.val < nL := by simpa [zOkI] using hok
      obtain ⟨x, r, rfl, h⟩ := zR1_e h
      intro H locs L hH hS hL
      exact lv_astore_n hx hb hd rfl hL hj (zCl_set (zAd E) ls _ (.ref x)) (fun L2 hL2 => h H locs L2 hH hS hL2)
    case astore j =>
      obtain ⟨rfl, hj⟩ : n = 2 ∧ j < nL := by simpa [zOkI] using hok
      obtain ⟨x, r, rfl, h⟩ := zR1_e h
      intro H locs L hH hS hL
      exact lv_astore hx hb hd hL hj (zCl_set (zAd E) ls _ (.ref x)) (fun L2 hL2 => h H locs L2 hH hS hL2)
    case iinc j z =>
      obtain ⟨⟨rfl, hv⟩, hj⟩ : (n = 3 ∧ Int32.ofInt z = v) ∧ j < nL := by simpa [zOkI] using hok
      obtain ⟨x, hg, h⟩ := zLi_e h
      subst hv
      intro H locs L hH hS hL
      obtain ⟨q, hq2⟩ := zLk_at hg
      exact lv_iinc (k := q) hx hb hd hL (by rw [zCl, List.getElem?_map, hq2]; rfl) rfl hj (zCl_set (zAd E) ls _ (.int (x + Int32.ofInt z))) (fun L2 hL2 => h H locs L2 hH hS hL2)
    case goto o =>
      obtain rfl : n = 3 := by simpa [zOkI] using hok
      obtain ⟨t, ht, h⟩ := zJ_e h
      intro H locs L hH hS hL
      exact lv_goto hx hb hd ht (h H locs L hH hS hL)
    case ifnonnull o =>
      obtain rfl : n = 3 := by simpa [zOkI] using hok
      obtain ⟨x, r, rfl, h⟩ := zR1_e h
      obtain ⟨t, ht, h⟩ := zJ_e h
      intro H locs L hH hS hL
      exact lv_ifnonnull hx hb hd ht (h H locs L hH hS hL)
    case ifCond q o =>
      obtain rfl : n = 3 := by simpa [zOkI] using hok
      obtain ⟨x, r, rfl, h⟩ := zI1_e h
      obtain ⟨t, ht, h⟩ := zJ_e h
      intro H locs L hH hS hL
      cases q
      · exact lv_if_eq hx hb hd ht (fun z => h.1 z H locs L hH hS hL) (fun z => h.2 z H locs L hH hS hL)
      · exact lv_if_ne hx hb hd ht (fun z => h.1 z H locs L hH hS hL) (fun z => h.2 z H locs L hH hS hL)
      · exact lv_if_lt hx hb hd ht (fun z => h.1 z H locs L hH hS hL) (fun z => h.2 z H locs L hH hS hL)
      · exact lv_if_ge hx hb hd ht (fun z => h.1 z H locs L hH hS hL) (fun z => h.2 z H locs L hH hS hL)
      · exact lv_if_gt hx hb hd ht (fun z => h.1 z H locs L hH hS hL) (fun z => h.2 z H locs L hH hS hL)
      · exact lv_if_le hx hb hd ht (fun z => h.1 z H locs L hH hS hL) (fun z => h.2 z H locs L hH hS hL)
    case if_icmp q o =>
      obtain rfl : n = 3 := by simpa [zOkI] using hok
      obtain ⟨y, x, r, rfl, h⟩ := zI2_e h
      obtain ⟨t, ht, h⟩ := zJ_e h
      intro H locs L hH hS hL
      cases q
      · exact lv_icmp_eq hx hb hd ht (fun z => h.1 z H locs L hH hS hL) (fun z => h.2 z H locs L hH hS hL)
      · exact lv_icmp_ne hx hb hd ht (fun z => h.1 z H locs L hH hS hL) (fun z => h.2 z H locs L hH hS hL)
      · exact lv_icmp_lt hx hb hd ht (fun z => h.1 z H locs L hH hS hL) (fun z => h.2 z H locs L hH hS hL)
      · exact lv_icmp_ge hx hb hd ht (fun z => h.1 z H locs L hH hS hL) (fun z => h.2 z H locs L hH hS hL)
      · exact lv_icmp_gt hx hb hd ht (fun z => h.1 z H locs L hH hS hL) (fun z => h.2 z H locs L hH hS hL)
      · exact lv_icmp_le hx hb hd ht (fun z => h.1 z H locs L hH hS hL) (fun z => h.2 z H locs L hH hS hL)
    case getfield idx =>
      obtain ⟨rfl, hin⟩ : n = 3 ∧ (own, idx, a, b) ∈ zFls := by simpa [zOkI] using hok
      obtain ⟨x, r, rfl, hs, h⟩ := zR1_e h
      obtain ⟨hw, ha, hb2⟩ := zFls_in hin
      obtain ⟨C0, T0, N0, ty0, e1, e2, e3, e4, -, -⟩ := zCls a ha
      have hft : zFt a b = T0 b := by unfold zFt; rw [e2]
      rw [hft] at hw
      have hbN : b < N0 := by rw [← e3]; exact hb2
      cases hf : (zFk a)[b]? with
      | none => rw [hf] at h; exact False.elim h
      | some o =>
        rw [hf] at h
        cases o with
        | none =>
          intro H locs L hH hS hL
          exact va_get hx hb hts2 e4 hown hK hH.1 x (by rw [yWs_at E u (yLt (hnn.imp id fun e => ⟨e, by simp⟩) hs), zCont_o hs]) e1 b hbN (hts2 _ hw) (fun _ q => q) (v := .int (u x b)) (by rw [zFl_at, hf]; simp) hd (h H locs L hH hS hL)
        | some o =>
          intro H locs L hH hS hL
          exact va_get hx hb hts2 e4 hown hK hH.1 x (by rw [yWs_at E u (yLt (hnn.imp id fun e => ⟨e, by simp⟩) hs), zCont_o hs]) e1 b hbN (hts2 _ hw) (fun _ q => q) (v := .ref (zAd E (x + o))) (by rw [zFl_at, hf]; simp) hd (h H locs L hH hS hL)
    case putfield idx =>
      have hok2 := hok
      simp only [zOkI, Bool.and_eq_true, decide_eq_true_eq, beq_iff_eq, Bool.not_eq_true'] at hok2
      obtain ⟨⟨⟨rfl, hin⟩, hfin⟩, hty⟩ := hok2
      obtain ⟨y, x, r, rfl, hs, h⟩ := zIR_e h
      obtain ⟨hw, ha, hb2⟩ := zFls_in hin
      obtain ⟨C0, T0, N0, ty0, e1, e2, e3, e4, e5, e6⟩ := zCls a ha
      have hft : zFt a b = T0 b := by unfold zFt; rw [e2]
      rw [hft] at hw hfin hty
      have hbN : b < N0 := by rw [← e3]; exact hb2
      cases hf : (zFk a)[b]? with
      | none => rw [hf] at h; exact False.elim h
      | some o =>
        rw [hf] at h
        cases o with
        | some o => exact False.elim h
        | none =>
          have hlen : b < (zFl (zAd E) (u x) x 0 (zFk a)).length := by rw [zFl_len]; exact hb2
          have key : ∀ (H1 : Heap) (locs1 : List Loc), va_P E.1 vwCl ((yWs nn E u).set x (zAd E x, .inr (a, (zFl (zAd E) (u x) x 0 (zFk a)).set b (.int y)))) H1 → va_D (zA E) ((yWs nn E u).set x (zAd E x, .inr (a, (zFl (zAd E) (u x) x 0 (zFk a)).set b (.int y)))) → va_S (zA E) s.heap H1 locs1 → yH nn E (zUp u x b y) H1 := by
            intro H1 locs1 hP1 hD1 hS1
            rw [zFl_set _ _ _ _ hf, ← zCont_o (E := E) hs] at hP1 hD1
            exact yHup (yLt (hnn.imp id fun e => ⟨e, by simp⟩) hs) (Nat.le_trans hbase hS1.1) hP1 hD1
          cases k with
          | zero =>
            have hty : (T0 b).2.2.1 = "I" := by simpa using hty
            intro H locs L hH hS hL
            exact va_put hx hb hts2 e4 ty0 e5 e6 hown hK hH.1 hH.2.1 hS x (by rw [yWs_at E u (yLt (hnn.imp id fun e => ⟨e, by simp⟩) hs), zCont_o hs]) e1 b hbN (hts2 _ hw) (fun _ q => q) hfin (ty := .int) (v := .int y) (by rw [hty]; decide +kernel) rfl rfl hlen hd (fun H1 locs1 hP1 hD1 hS1 => h H1 locs1 L (key H1 locs1 hP1 hD1 hS1) hS1 hL)
          | succ k =>
            have hty : (T0 b).2.2.1 = "Z" := by simpa using hty
            obtain ⟨hy, h⟩ := h
            intro H locs L hH hS hL
            exact va_put hx hb hts2 e4 ty0 e5 e6 hown hK hH.1 hH.2.1 hS x (by rw [yWs_at E u (yLt (hnn.imp id fun e => ⟨e, by simp⟩) hs), zCont_o hs]) e1 b hbN (hts2 _ hw) (fun _ q => q) hfin (ty := .boolean) (v := .int y) (by rw [hty]; decide +kernel) (by rcases hy with rfl | rfl <;> rfl) (by rcases hy with rfl | rfl <;> rfl) hlen hd (fun H1 locs1 hP1 hD1 hS1 => h H1 locs1 L (key H1 locs1 hP1 hD1 hS1) hS1 hL)
    case iaload =>
      obtain rfl : n = 1 := by simpa [zOkI] using hok
      obtain ⟨y, x, r, rfl, ⟨n0, hs, hv⟩, h⟩ := zIR_e h
      intro H locs L hH hS hL
      exact va_iald hx hb hK hH.1 x 0 (by rw [yWs_at E u (yLt (hnn.imp id fun e => ⟨e, by simp⟩) hs), zCont_0 hs]) rfl hv hd (h H locs L hH hS hL)
    case baload =>
      obtain rfl : n = 1 := by simpa [zOkI] using hok
      obtain ⟨y, x, r, rfl, ⟨n0, hs, hv⟩, h⟩ := zIR_e h
      intro H locs L hH hS hL
      exact va_bald hx hb hK hH.1 x 1 (by rw [yWs_at E u (yLt (hnn.imp id fun e => ⟨e, by simp⟩) hs), zCont_1 hs]) rfl hv hd (h H locs L hH hS hL)
    case laload =>
      have h143 : nn = 143 := hen.elim id fun q => absurd q (by simp [yEnt])
      obtain rfl : n = 1 := by simpa [zOkI] using hok
      obtain ⟨y, x, r, rfl, ⟨n0, hs, hv⟩, h⟩ := zIR_e h
      intro H locs L hH hS hL
      exact va_lald (f := fun j => (u x j).toInt64) hx hb hK hH.1 x 2 (by rw [yWs_at E u (yLt (Or.inl h143) hs), zCont_2 hs]) rfl hv hd (h H locs L hH hS hL)
    case aaload =>
      obtain rfl : n = 1 := by simpa [zOkI] using hok
      obtain ⟨y, x, r, rfl, ⟨n0, hs, hv⟩, h⟩ := zIR_e h
      intro H locs L hH hS hL
      exact va_aldq (f := fun i => some (zAd E (x + 1 + 5 * i))) hx hb hK hH.1 x 3 (by rw [yWs_at E u (yLt (hnn.imp id fun e => ⟨e, by simp⟩) hs), zCont_3 hs]) rfl hv hd (h H locs L hH hS hL)
    case iastore =>
      obtain rfl : n = 1 := by simpa [zOkI] using hok
      obtain ⟨w, y, x, r, rfl, ⟨n0, hs, hv⟩, h⟩ := zIIR_e h
      intro H locs L hH hS hL
      refine va_iast hx hb hK hH.1 hH.2.1 hS x 0 (by rw [yWs_at E u (yLt (hnn.imp id fun e => ⟨e, by simp⟩) hs), zCont_0 hs]) rfl hv hd (fun H1 locs1 hP1 hD1 hS1 => ?_)
      rw [← zCont_0 (E := E) (u := upd (u x) y.toNatClampNeg w) hs] at hP1 hD1
      exact h H1 locs1 L (yHup (yLt (hnn.imp id fun e => ⟨e, by simp⟩) hs) (Nat.le_trans hbase hS1.1) hP1 hD1) hS1 hL
    case bastore =>
      obtain rfl : n = 1 := by simpa [zOkI] using hok
      obtain ⟨w, y, x, r, rfl, ⟨n0, hs, hv⟩, h⟩ := zIIR_e h
      intro H locs L hH hS hL
      refine va_bast hx hb hK hH.1 hH.2.1 hS x 1 (by rw [yWs_at E u (yLt (hnn.imp id fun e => ⟨e, by simp⟩) hs), zCont_1 hs]) rfl hv hd (fun H1 locs1 hP1 hD1 hS1 => ?_)
      rw [← zCont_1 (E := E) (u := upd (u x) y.toNatClampNeg (vp_nar .byte w)) hs] at hP1 hD1
      exact h H1 locs1 L (yHup (yLt (hnn.imp id fun e => ⟨e, by simp⟩) hs) (Nat.le_trans hbase hS1.1) hP1 hD1) hS1 hL
    case lastore =>
      have h143 : nn = 143 := hen.elim id fun q => absurd q (by simp [yEnt])
      obtain rfl : n = 1 := by simpa [zOkI] using hok
      obtain ⟨w, y, x, r, rfl, ⟨n0, hs, hv⟩, hw, h⟩ := zLIR_e h
      intro H locs L hH hS hL
      refine va_last hx hb hK hH.1 hH.2.1 hS x 2 (by rw [yWs_at E u (yLt (Or.inl h143) hs), zCont_2 hs]) rfl hv hd (fun H1 locs1 hP1 hD1 hS1 => ?_)
      have hu : vp_updL (fun j => (u x j).toInt64) y.toNatClampNeg w = fun j => (upd (u x) y.toNatClampNeg w.toInt32 j).toInt64 := by
        funext j
        simp only [vp_updL, upd]
        split
        · exact hw.symm
        · rfl
      rw [hu, ← zCont_2 (E := E) (u := upd (u x) y.toNatClampNeg w.toInt32) hs] at hP1 hD1
      exact h H1 locs1 L (yHup (yLt (Or.inl h143) hs) (Nat.le_trans hbase hS1.1) hP1 hD1) hS1 hL
    case arraylength =>
      have h143 : nn = 143 := hen.elim id fun q => absurd q (by simp [yEnt])
      obtain rfl : n = 1 := by simpa [zOkI] using hok
      obtain ⟨x, r, rfl, t, n0, hs, h⟩ := zR1_e h
      intro H locs L hH hS hL
      obtain ⟨cA, w, ty, t0, hc, ht, hw⟩ : ∃ (cA : ClassId) (w : vp_A) (ty : FieldType) (t0 : Nat), zCont E (u x) x = .inl (cA, w) ∧ (zTys E)[t0]? = some (cA, ty) ∧ w.1 = n0 := by
        rcases t with _ | _ | _ | t
        · exact ⟨_, _, _, 0, zCont_0 hs, rfl, rfl⟩
        · exact ⟨_, _, _, 1, zCont_1 hs, rfl, rfl⟩
        · exact ⟨_, _, _, 2, zCont_2 hs, rfl, rfl⟩
        · exact ⟨E.2.1 3, (n0, .inr (.inr (.inr (.inr (fun i => some (zAd E (x + 1 + 5 * i))))))), _, 3, by simp only [zCont, hs], rfl, rfl⟩
      exact va_alen hx hb hK hH.1 x t0 (by rw [yWs_at E u (yLt (Or.inl h143) hs), hc]) ht (by rw [hw]) hd (h H locs L hH hS hL)
    case tableswitch o lo hi os =>
      obtain ⟨x, r, rfl, hz, ho, h⟩ := zI1_e h
      intro H locs L hH hS hL
      by_cases hout : x.toInt < lo ∨ hi < x.toInt
      · obtain ⟨t, ht, h⟩ := zJ_e (ho hout)
        exact lv_tableOut hx hb hd hout ht (h H locs L hH hS hL)
      · have g1 : ¬ x.toInt < lo := fun q => hout (Or.inl q)
        have g2 : ¬ hi < x.toInt := fun q => hout (Or.inr q)
        have g3 : (x.toInt - lo).toNat < os.size := by omega
        obtain ⟨t, ht, h⟩ := zJ_e (zSw_e os.toList lo h (x.toInt - lo).toNat os[(x.toInt - lo).toNat] (by simp [g3]) (by omega))
        exact lv_tableIn hx hb hd g1 g2 (by simp [g3]) ht (h H locs L hH hS hL)
    case ldc idx =>
      cases k with
      | zero =>
        obtain ⟨rfl, hin⟩ : n = 2 ∧ (own, idx, v) ∈ zKs := by simpa [zOkI] using hok
        intro H locs L hH hS hL
        exact lv_ldc hx hb hown (hts2 _ (zKs_in hin)) hd (h H locs L hH hS hL)
      | succ k =>
        obtain ⟨rfl, hin⟩ : n = 2 ∧ (own, idx, a) ∈ zSs := by simpa [zOkI] using hok
        obtain ⟨tx, hZ⟩ := hst.1 own idx a hin (zSs_own hin hsb)
        intro H locs L hH hS hL
        exact va_ldcS hx hb hown hZ hd (h H locs L hH hS hL)
    case ireturn =>
      obtain rfl : n = 1 := by simpa [zOkI] using hok
      obtain ⟨x, r, rfl, rfl, hτ, h⟩ := zI1_e h
      intro H locs L hH hS hL
      split at h
      · exact hret hτ x u H locs L pc hd (Or.inl rfl) h hH hS
      · exact hret hτ x u H locs L pc hd (Or.inr ⟨rfl, h.1⟩) h.2 hH hS
      · exact False.elim h
    case return_ =>
      obtain rfl : n = 1 := by simpa [zOkI] using hok
      obtain ⟨rfl, hτ, hrb, h⟩ := h
      intro H locs L hH hS hL
      exact hretv hτ u H locs L pc hd hrb h hH hS
    case new idx =>
      exact hnew h.1 hq h.2
    case invokevirtual idx =>
      by_cases hk50 : k = 50
      · subst hk50
        obtain ⟨rfl, hin⟩ : n = 3 ∧ (own, idx) ∈ zLns := by simpa [zOkI] using hok
        obtain ⟨x, r, rfl, hr, hz, h⟩ := zR1_e h
        intro H locs L hH hS hL
        refine jcV (k := 2) (n := nn) (bb := bb) (u := u) (as := []) (r := r.map (zCv (zAd E))) hx hb hml hown hts2 hK hst (by omega) (by omega) hcs (o_length hin) o_lenI o_lenS (hst.2.2.1 x hz).1 (m_length hz) (zRest r hr) rfl hH hS hL.1 hd rfl (fun w H1 locs1 hw hH1 hS1 => ?_)
        subst hw
        exact h H1 locs1 L hH1 hS1 hL
      · by_cases hk51 : k = 51
        · subst hk51
          obtain ⟨rfl, hin⟩ : n = 3 ∧ (own, idx) ∈ zChs := by simpa [zOkI] using hok
          obtain ⟨y, x, r, rfl, hr, hz, hv, h⟩ := zIR_e h
          intro H locs L hH hS hL
          refine jcV (k := 4) (n := nn) (bb := bb) (u := u) (as := [.int y]) (r := r.map (zCv (zAd E))) hx hb hml hown hts2 hK hst (by omega) (by omega) hcs (o_charAt hin) o_chI o_chS (hst.2.2.1 x hz).1 (m_char hz hv) (zRest r hr) rfl hH hS hL.1 hd rfl (fun w H1 locs1 hw hH1 hS1 => ?_)
          subst hw
          exact h H1 locs1 L hH1 hS1 hL
        · have hok2 := hok
          simp only [zOkI, Bool.and_eq_true, beq_iff_eq] at hok2
          obtain ⟨rfl, hok3⟩ := hok2
          have hok4 : ((((own, idx, a) ∈ zMls ∧ b = zNa a) ∧ k = zRc a) ∧ k < 12) ∧ zOo a ≠ 13 := by simpa using hok3
          obtain ⟨⟨⟨⟨hin, hb3⟩, hk⟩, hk12⟩, hn⟩ := hok4
          have h5 : zPop b st [] fun as st1 => zR1 st1 fun x r => zShapes[x]? = some (.inl k) ∧ r.length ≤ 4 ∧ (C false a (.ref x :: as) u (fun w u2 => yP0 p l e R s m args below meth c cells slots Z nL nn E (pc + 3) ls (w.toList ++ r) u2) ∨ (τ = true ∧ C true a (.ref x :: as) u Q)) := by
            dsimp only at h
            split at h
            · exact absurd rfl hk50
            · exact absurd rfl hk51
            · exact h
          obtain ⟨as, st1, rfl, hlen, h0⟩ := zPop_e b st [] h5
          obtain ⟨x, r, rfl, hs, hr, h1⟩ := zR1_e h0
          rw [List.append_nil] at h1
          rw [hk] at hs hk12
          have hya : ySb (zOo a) bb = true := by
            rw [zOo_eq (zMls_in hin).2]
            refine ySb_go hsb ?_
            cases h9 : yCal own (yOos.getD a 99)
            · have h8 : (decide (k = 50) || decide (k = 51) || own == 13 || yCal own (yOos.getD a 99)) = true := hsd
              rw [h9, decide_eq_false hk50, decide_eq_false hk51, show (own == 13) = false from by simpa using ho13] at h8
              exact absurd h8 (by decide)
            · rfl
          have hea : nn = 143 ∨ yS.contains a = true := hen.imp id fun q => by simpa [yEnt, hk50, hk51] using q
          refine Or.elim h1 (fun h => ?_) (fun h => ?_)
          · intro H locs L hH hS hL
            exact ycV hx hb hml hown hts hK hst (fun g => yLt (hnn.imp id fun e => ⟨e, by simp⟩) g) hRf hRl hcs hin hn hk12 (hC a _ u _ (zMls_in hin).2 hn hya hea h) hs hr (hlen.trans hb3) hH hS hL.1 hd (fun v u1 H1 locs1 hz hw hH1 hS1 => hw H1 locs1 L hH1 hS1 hL)
          · intro H locs L hH hS hL
            exact hTV h.1 hin hn hya hea hk12 hs hr (hlen.trans hb3) h.2 hH hS hL.1 hd
    case ldc_w idx =>
      obtain ⟨rfl, hin⟩ : n = 3 ∧ (own, idx, v) ∈ zKs := by simpa [zOkI] using hok
      intro H locs L hH hS hL
      exact lv_ldcw hx hb hown (hts2 _ (zKs_in hin)) hd (h H locs L hH hS hL)
    case invokestatic idx =>
      by_cases hk5 : k = 5
      · subst hk5; exact False.elim h
      · rcases k with _ | _ | _ | k
        · obtain ⟨rfl, ⟨⟨hin, hb3⟩, hk⟩, hn⟩ : n = 3 ∧ (((own, idx, a) ∈ zMls ∧ b = zNa a) ∧ zRc a = 99) ∧ zOo a ≠ 13 := by simpa [zOkI] using hok
          obtain ⟨as, r, rfl, hlen, hr, h⟩ := zPop_e b st [] h
          rw [List.append_nil] at h
          have hya : ySb (zOo a) bb = true := by
            rw [zOo_eq (zMls_in hin).2]
            refine ySb_go hsb ?_
            cases h9 : yCal own (yOos.getD a 99)
            · have h8 : (!decide (0 = 0) || own == 13 || yCal own (yOos.getD a 99)) = true := hsd
              rw [h9, show (own == 13) = false from by simpa using ho13] at h8
              exact absurd h8 (by decide)
            · rfl
          have hea : nn = 143 ∨ yS.contains a = true := hen.imp id fun q => by simpa [yEnt] using q
          rcases h with h | h
          · intro H locs L hH hS hL
            exact ycS hx hb hml hown hts hK hst hRf hRl hcs hin hn hk (hC a _ u _ (zMls_in hin).2 hn hya hea h) hr (hlen.trans hb3) hH hS hL.1 hd (fun v u1 H1 locs1 hz hw hH1 hS1 => hw H1 locs1 L hH1 hS1 hL)
          · intro H locs L hH hS hL
            exact hTS h.1 hin hn hya hea hk hr (hlen.trans hb3) h.2 hH hS hL.1 hd
        · obtain ⟨rfl, hin⟩ : n = 3 ∧ (own, idx) ∈ zMin := by simpa [zOkI] using hok
          obtain ⟨y, x, r, rfl, hr, h⟩ := zI2_e h
          intro H locs L hH hS hL
          have hr8 := zRest (E := E) r hr
          exact va_mmin hx hb (hml.trans hL.1.symm) hown (hts2 _ (zMin_in hin)) (hts2 _ zF1) (hts2 _ zF2) (hts2 _ zF3) (by omega) (by omega) hcs.1 hcs.2 hd (h H locs L hH hS hL)
        · obtain ⟨rfl, hin⟩ : n = 3 ∧ (own, idx) ∈ zMax := by simpa [zOkI] using hok
          obtain ⟨y, x, r, rfl, hr, h⟩ := zI2_e h
          intro H locs L hH hS hL
          have hr8 := zRest (E := E) r hr
          exact va_mmax hx hb (hml.trans hL.1.symm) hown (hts2 _ (zMax_in hin)) (hts2 _ zF4) (hts2 _ zF2) (hts2 _ zF5) (by omega) (by omega) hcs.1 hcs.2 hd (h H locs L hH hS hL)
        · have hok2 := hok
          simp only [zOkI, Bool.and_eq_true, beq_iff_eq] at hok2
          obtain ⟨rfl, hok3⟩ := hok2
          have hin : (own, idx) ∈ zCps := by simpa using hok3
          have h5 : zCpy st fun n dp x sp x0 r => r.length ≤ 4 ∧ (∃ n0 n1, zShapes[x0]? = some (.inr (0, n0)) ∧ zShapes[x]? = some (.inr (0, n1)) ∧ ¬ sp < 0 ∧ ¬ dp < 0 ∧ ¬ n < 0 ∧ sp.toNatClampNeg + n.toNatClampNeg ≤ n0 ∧ dp.toNatClampNeg + n.toNatClampNeg ≤ n1) ∧ yP0 p l e R s m args below meth c cells slots Z nL nn E (pc + 3) ls r (zRow u x (va_cpy (u x0) (u x) sp.toNatClampNeg dp.toNatClampNeg n.toNatClampNeg)) := by
            dsimp only at h
            split at h
            · omega
            · omega
            · omega
            · exact False.elim h
            · exact h
          obtain ⟨nn, dp, x, sp, x0, r, rfl, hr, ⟨n0, n1, hs0, hs1, g1, g2, g3, g4, g5⟩, h⟩ := zCpy_e h5
          intro H locs L hH hS hL
          have hr8 := zRest (E := E) r hr
          have hnw : nativeFrameWords "java/lang/System" "arraycopy" 5 ≤ 100 := by decide +kernel
          refine va_copyi hx hb (hml.trans hL.1.symm) hown (hts2 _ (zCps_in hin)) (hts2 _ zF6) (hts2 _ zF7) (hts2 _ zF8) hK hH.1 hH.2.1 hS x0 x 0 0 (by rw [yWs_at E u (yLt (hnn.imp id fun e => ⟨e, by simp⟩) hs0), zCont_0 hs0]) (by rw [yWs_at E u (yLt (hnn.imp id fun e => ⟨e, by simp⟩) hs1), zCont_0 hs1]) rfl rfl rfl g1 g2 g3 g4 g5 (fun _ _ => rfl) (by omega) (by omega) hd (fun H1 locs1 hP1 hD1 hS1 => ?_)
          rw [← zCont_0 (E := E) (u := va_cpy (u x0) (u x) sp.toNatClampNeg dp.toNatClampNeg nn.toNatClampNeg) hs1] at hP1 hD1
          exact h H1 locs1 L (yHup (yLt (hnn.imp id fun e => ⟨e, by simp⟩) hs1) (Nat.le_trans hbase hS1.1) hP1 hD1) hS1 hL
end YS
