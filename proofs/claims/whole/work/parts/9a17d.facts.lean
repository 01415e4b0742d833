/-! what the law's start gives -/
section YF
variable {args : Array Value} {s : State}
/-- a field's value out of the term's -/
theorem yOFof {t : Term} {o n d : String} {v : Value} {a : Nat} {A : Nat → Prop} (ht : t.eval args s none [] s = some (.ref a)) (hv : (Term.field t o n d).eval args s none [] s = some v) (hA : ∀ a : Nat, a < s.heap.size → ¬ A a) : va_OF o n d v a A s s.heap := by
  cases hfo : s.fieldFound? o n d with
  | none =>
    rw [va_fe ht] at hv
    simp [State.fieldOf?, State.fieldNamed?, hfo] at hv
  | some x =>
    obtain ⟨cf, k, fi, f⟩ := x
    obtain ⟨g1, cell, g2, g3, -, -, g6⟩ := Term.field_spec hfo ht hv
    exact ⟨cf, k, fi, f, cell, hfo, g1, g2, g3, g6, hA _ (Array.getElem?_eq_some_iff.mp g2).1⟩
/-- a constant text -/
theorem yTxOf {C tx : String} {idx : Nat} {cs : List Int32} {A : Nat → Prop} (hcs : cs.length < 2 ^ 31) (h : ∀ w ∈ yTx C idx cs, w.before args s = true) (hs : (Cond.stringRef C idx tx).before args s = true) (hA : ∀ a : Nat, a < s.heap.size → ¬ A a) : ∃ q : Nat × Nat, vk_R C idx tx q.1 s ∧ va_O "java/lang/String" q.1 A s s.heap ∧ va_OF "java/lang/String" "coder" "B" (.int 0) q.1 A s s.heap ∧ va_OF "java/lang/String" "value" "[B" (.ref q.2) q.1 A s s.heap ∧ va_T .byte q.2 cs.length (fun j => .int (cs.getD j 0)) A s s.heap := by
  have h1 := h _ List.mem_cons_self
  have h2 := h _ (List.mem_cons_of_mem _ List.mem_cons_self)
  have h3 := h _ (List.mem_cons_of_mem _ (List.mem_cons_of_mem _ List.mem_cons_self))
  have h4 := h _ (List.mem_cons_of_mem _ (List.mem_cons_of_mem _ (List.mem_cons_of_mem _ List.mem_cons_self)))
  have h5 : ∀ j, j < cs.length → (Cond.eq (.elem (.field (.string C idx) "java/lang/String" "value" "[B") (.int (Int32.ofNat j))) (.int (cs.getD j 0))).before args s = true := fun j hj => h _ (List.mem_cons_of_mem _ (List.mem_cons_of_mem _ (List.mem_cons_of_mem _ (List.mem_cons_of_mem _ (List.mem_map.mpr ⟨j, List.mem_range.mpr hj, rfl⟩)))))
  obtain ⟨a, c, cA, kA, q1, -⟩ := Cond.exactly_spec (args := args) (first := s) (o := none) (s := s) (idx := []) (t := .string C idx) (cls := "java/lang/String") h1
  obtain ⟨t, e1, e2⟩ := va_Tof (A := A) (f := fun j => .int (cs.getD j 0)) hcs h3 (va_eqt h4) (fun j hj => va_eqt (h5 j hj)) hA
  exact ⟨(a, t), vk_R.of hs q1, va_Oof h1 q1 hA, yOFof q1 (va_eqt h2) hA, yOFof q1 e1 hA, e2⟩
/-- the classes -/
theorem yKof (htz : ∀ w ∈ zTS, w.before args s = true) (hao : va_AO RX1 s) : ∃ (D : va_G) (cid : Nat → ClassId), va_K D vwCl [(cid 0, .int), (cid 1, .byte), (cid 2, .long), (cid 3, .object RX1)] s := by
  have h0 : ∀ a : Nat, ∃ q : ClassId × (Nat → Nat), ∀ r : vw_C, vwCl[a]? = some r → u_Kn s r.1 r.2.1 r.2.2 q.1 q.2 := by
    intro a
    by_cases ha : a < 12
    · obtain ⟨C0, T0, N0, ty0, e1, e2, e3, e4, -, -⟩ := zCls a ha
      have hw := of_decide_eq_true (List.all_eq_true.mp yIi_ok.1 a (List.mem_range.mpr ha))
      have hcn : bCn a = C0 := by unfold bCn; rw [List.getD_eq_getElem?_getD, e1]; rfl
      rw [hcn, e3] at hw
      obtain ⟨cC, iS, hk⟩ := u_known (C := C0) (T := T0) (N := N0) htz e4 (htz _ (bWd_in hw))
      refine ⟨(cC, iS), fun r hr => ?_⟩
      rw [e1] at hr
      cases hr
      exact hk
    · refine ⟨(0, fun _ => 0), fun r hr => ?_⟩
      have hl := (List.getElem?_eq_some_iff.mp hr).1
      have : vwCl.length = 12 := rfl
      omega
  obtain ⟨f, hf⟩ := Classical.axiomOfChoice h0
  obtain ⟨c0, k0, p0, a0, b0, d0⟩ := Cond.arrayClass_spec (htz _ (bWd_in yIi_ok.2.1))
  obtain ⟨c1, k1, p1, a1, b1, d1⟩ := Cond.arrayClass_spec (htz _ (bWd_in yIi_ok.2.2.1))
  obtain ⟨c2, k2, p2, a2, b2, d2⟩ := Cond.arrayClass_spec (htz _ (bWd_in yIi_ok.2.2.2))
  obtain ⟨p3, c3, k3, g1, g2, g3, g4, g5⟩ := Cond.arrayOver_spec (va_AO.use (A := args) hao)
  refine ⟨(fun a => (f a).1, fun a => (f a).2), fun i => [c0, c1, c2, c3].getD i 0, fun c q hq => hf c q hq, fun k q hk => ?_⟩
  match k, hk with
  | 0, hk =>
    cases hk
    exact ⟨fun n z => ⟨fun k h => (by cases h), k0, b0, p0, d0⟩, a0⟩
  | 1, hk =>
    cases hk
    exact ⟨fun n z => ⟨fun k h => (by cases h), k1, b1, p1, d1⟩, a1⟩
  | 2, hk =>
    cases hk
    exact ⟨fun n z => ⟨fun k h => (by cases h), k2, b2, p2, d2⟩, a2⟩
  | 3, hk =>
    cases hk
    exact ⟨fun n z => ⟨fun k h => (by cases h), k3, g3, p3, g4⟩, k3, p3, g3, g4, g1, g5⟩
  | n + 4, hk => exact absurd (List.getElem?_eq_some_iff.mp hk).1 (by simp)
/-- where a text stands: the reference's own constant, or the class's -/
def ySrc (b : Bool) (i : Nat) : Nat × Nat × Nat × List Nat := match b with
  | true => (match yTi.find? (fun q => q.1 == 12 && q.2.2.1 == i) with
    | some q => q
    | none => (yTi.find? (fun q => q.1 == 8 && q.2.2.1 == i)).getD (0, 0, 0, []))
  | false => (yTi.find? (fun q => q.1 == 8 && q.2.2.1 == i)).getD (0, 0, 0, [])
def ySrcOk (b : Bool) (i : Nat) : Bool := decide (ySrc b i ∈ yTi) && decide ((ySrc b i).2.2.1 = i)
set_option maxRecDepth 100000 in
theorem ySrc_ok : ((List.range 33).all fun i => ySrcOk false i && ySrcOk true i) = true ∧ (zSs.all fun q => decide (2000 ≤ q.2.2) && decide (q.2.2 < 2033) && decide ((ySrc (q.1 == 12) (q.2.2 - 2000)).1 = q.1) && decide ((ySrc (q.1 == 12) (q.2.2 - 2000)).2.1 = q.2.1)) = true := by decide +kernel
theorem ySrc_in {b : Bool} {i : Nat} (hi : i < 33) : ySrc b i ∈ yTi ∧ (ySrc b i).2.2.1 = i := by
  have h := List.all_eq_true.mp ySrc_ok.1 i (List.mem_range.mpr hi)
  obtain ⟨h1, h2⟩ := Bool.and_eq_true_iff.mp h
  cases b
  · obtain ⟨h3, h4⟩ := Bool.and_eq_true_iff.mp h1
    exact ⟨of_decide_eq_true h3, of_decide_eq_true h4⟩
  · obtain ⟨h3, h4⟩ := Bool.and_eq_true_iff.mp h2
    exact ⟨of_decide_eq_true h3, of_decide_eq_true h4⟩
theorem zTxt_len : (zTxt.all fun l => decide (l.length < 100)) = true := by decide +kernel
def yTF (s : State) (A : Nat → Prop) (b : Bool) (i : Nat) (q : Nat × Nat) : Prop := (∃ tx, vk_R (zOwn (ySrc b i).1) (ySrc b i).2.1 tx q.1 s) ∧ va_O "java/lang/String" q.1 A s s.heap ∧ va_OF "java/lang/String" "coder" "B" (.int 0) q.1 A s s.heap ∧ va_OF "java/lang/String" "value" "[B" (.ref q.2) q.1 A s s.heap ∧ va_T .byte q.2 (zTn i) (fun j => .int ((zTxt.getD i []).getD j 0)) A s s.heap
theorem yTexts (htl : ∀ w ∈ lw_tbl, w.before args s = true) (hnl : ∀ w ∈ nwL, w.before args s = true) {A : Nat → Prop} (hA : ∀ a : Nat, a < s.heap.size → ¬ A a) (b : Bool) : ∃ f : Nat → Nat × Nat, ∀ i, i < 33 → yTF s A b i (f i) := by
  have h0 : ∀ i : Nat, ∃ q : Nat × Nat, i < 33 → yTF s A b i q := by
    intro i
    by_cases hi : i < 33
    · obtain ⟨h1, h2⟩ := ySrc_in (b := b) hi
      have h3 := nwChk_in (List.all_eq_true.mp yTi_ok _ h1)
      rw [h2] at h3
      have h4 := lwChk_in yTs_ok _ (List.mem_map.mpr ⟨_, h1, rfl⟩)
      rw [h2] at h4
      have hlen : (zTxt.getD i []).length < 2 ^ 31 := by
        rw [List.getD_eq_getElem?_getD]
        cases hz : zTxt[i]? with
        | none => show 0 < _; decide
        | some l =>
          have := of_decide_eq_true (List.all_eq_true.mp zTxt_len l (List.mem_of_getElem? hz))
          show l.length < _
          omega
      obtain ⟨q, g1, g2, g3, g4, g5⟩ := yTxOf hlen (fun w hw => hnl _ (h3 w hw)) (htl _ h4) hA
      exact ⟨q, fun _ => ⟨⟨_, g1⟩, g2, g3, g4, g5⟩⟩
    · exact ⟨(0, 0), fun h => absurd h hi⟩
  exact Classical.axiomOfChoice h0
/-- the texts' addresses: the class's, the reference's -/
def yAdr (f g : Nat → Nat × Nat) (k : Nat) : Nat := if k < 3000 then (f (k - 2000)).1 else if k < 10000 then (f (k - 3000)).2 else if k < 11000 then (g (k - 10000)).1 else (g (k - 11000)).2
theorem yMsOf (htl : ∀ w ∈ lw_tbl, w.before args s = true) (hnl : ∀ w ∈ nwL, w.before args s = true) : yMs s := by
  refine ⟨fun i hi => ?_, fun q hq => va_Nw.of (by rfl) (htl _ (lwChk_in yCa_ok.1 _ (List.mem_map.mpr ⟨q, hq, rfl⟩))), fun c hc => va_Nw.of (by rfl) (htl _ (lwChk_in yCa_ok.2 _ (List.mem_map.mpr ⟨c, hc, rfl⟩))), fun q hq q2 hq2 hne => va_Nc.of (hnl _ (nwChk_in yPr_ok _ (List.mem_map.mpr ⟨(q.2.1, q2.2.1), ?_, rfl⟩)))⟩
  · rw [← yMt_ok.1] at hi
    obtain ⟨r, hr, rfl⟩ := List.mem_map.mp hi
    have h1 := htl _ (lwChk_in yMt_ok.2.1 _ (List.mem_map.mpr ⟨r, hr, rfl⟩))
    have h2 := hnl _ (nwChk_in yMt_ok.2.2 _ (List.mem_map.mpr ⟨r, hr, rfl⟩))
    obtain ⟨a, c, cA, kA, q1, -⟩ := Cond.exactly_spec (args := args) (first := s) (o := none) (s := s) (idx := []) (t := .string "MilkDays" r.1) (cls := "java/lang/String") h2
    exact ⟨r.2, a, vk_R.of h1 q1⟩
  · unfold yPr
    exact List.mem_flatten.mpr ⟨_, List.mem_map.mpr ⟨q, hq, rfl⟩, List.mem_map.mpr ⟨q2, List.mem_filter.mpr ⟨hq2, decide_eq_true hne⟩, rfl⟩⟩
theorem ySoOf (htl : ∀ w ∈ lw_tbl, w.before args s = true) (hnl : ∀ w ∈ nwL, w.before args s = true) {A : Nat → Prop} (hA : ∀ a : Nat, a < s.heap.size → ¬ A a) : va_Z "java/lang/String" "COMPACT_STRINGS" "Z" (.int 1) A s s.heap ∧ va_Zq "jdk/internal/util/Preconditions" "SIOOBE_FORMATTER" "Ljava/util/function/BiFunction;" A s s.heap ∧ vx_Zq Bundle.tN "UNASSIGNED_STACK" Bundle.steD A s s.heap ∧ vx_Zq Bundle.tN "SUPPRESSED_SENTINEL" Bundle.listD A s s.heap := by
  have h1 := lwChk_in ySo_ok.1
  have h2 := nwChk_in ySo_ok.2
  exact ⟨va_Zof (htl _ (h1 _ (by simp))) (htl _ (h1 _ (by simp))) (va_eqt (hnl _ (h2 _ (by simp)))) hA, va_Zqof (htl _ (h1 _ (by simp))) (htl _ (h1 _ (by simp))) (hnl _ (h2 _ (by simp))) hA, vx_Zqof (htl _ (h1 _ (by simp [Bundle.tN, Bundle.steD]))) (htl _ (h1 _ (by simp [Bundle.tN]))) (hnl _ (h2 _ (by simp [Bundle.tN, Bundle.steD]))) hA, vx_Zqof (htl _ (h1 _ (by simp [Bundle.tN, Bundle.listD]))) (htl _ (h1 _ (by simp [Bundle.tN]))) (hnl _ (h2 _ (by simp [Bundle.tN, Bundle.listD]))) hA⟩
theorem yXOf (htl : ∀ w ∈ lw_tbl, w.before args s = true) (hnl : ∀ w ∈ nwL, w.before args s = true) {b : Bool} {E : zE} (hA : ∀ a : Nat, a < s.heap.size → ¬ zA E a) {f : Nat → Nat × Nat} (hf : ∀ i, i < 33 → yTF s (zA E) b i (f i)) (ha : ∀ i, i < 33 → zAd E (2000 + i) = (f i).1 ∧ zAd E (3000 + i) = (f i).2) : yX b E s s.heap := by
  refine ⟨fun own idx a hi ho => ?_, yMsOf htl hnl, fun x hx => ?_, ySoOf htl hnl hA⟩
  · have h := List.all_eq_true.mp ySrc_ok.2 _ hi
    simp only [Bool.and_eq_true, decide_eq_true_eq] at h
    obtain ⟨⟨⟨h1, h2⟩, h3⟩, h4⟩ := h
    rw [ho] at h3 h4
    have g := (hf (a - 2000) (by omega)).1
    rw [h3, h4] at g
    have e := (ha (a - 2000) (by omega)).1
    rw [show 2000 + (a - 2000) = a by omega] at e
    rw [e]
    exact g
  · obtain ⟨h1, h2⟩ := hx
    obtain ⟨e1, e2⟩ := ha (x - 2000) (by omega)
    rw [show 2000 + (x - 2000) = x by omega] at e1
    rw [show 3000 + (x - 2000) = x + 1000 by omega] at e2
    rw [e1, e2]
    exact (hf (x - 2000) (by omega)).2
end YF
