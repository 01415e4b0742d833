/-! a case of the law: loads of the script, the two calls, their comparison -/
abbrev lawW : Type := List (Nat × Instr × Nat)
def lawV (B : Bool) (x : Int32) : Int32 := if B = true then (if x = 0 then 0 else 1) else x
def lawN (B : Bool) : Nat := if B = true then 14 else 6
def lawR (B : Bool) (j pc : Nat) : lawW := [(pc, .aload_n 0, 1), (pc + 1, .iload 4, 2), (pc + 3, .iconst (j : Int), 1), (pc + 4, .iadd, 1), (pc + 5, .iaload, 1)] ++ if B = true then [(pc + 6, .ifCond .eq 7, 3), (pc + 9, .iconst 1, 1), (pc + 10, .goto 4, 3), (pc + 13, .iconst 0, 1)] else []
def lawRs : List Bool → Nat → Nat → lawW
  | [], _, _ => []
  | B :: t, j, pc => lawR B j pc ++ lawRs t (j + 1) (pc + lawN B)
def lawE : List Bool → Nat → Nat
  | [], pc => pc
  | B :: t, pc => lawE t (pc + lawN B)
def lawA (xs : Nat → Int32) (i : Nat) : List Bool → Nat → List Int32
  | [], _ => []
  | B :: t, j => lawV B (xs (i + j)) :: lawA xs i t (j + 1)
theorem lawA_len (xs : Nat → Int32) (i : Nat) : ∀ (ks : List Bool) (j : Nat), (lawA xs i ks j).length = ks.length
  | [], _ => rfl
  | _ :: t, j => by simp [lawA, lawA_len xs i t (j + 1)]
def lawOk (cc : ByteArray) (l : lawW) : Bool := l.all fun q => decide (decode cc q.1 = .ok q.2)
theorem lawOk_at {cc : ByteArray} {l : lawW} (h : lawOk cc l = true) {q : Nat × Instr × Nat} (hq : q ∈ l) : decode cc q.1 = .ok q.2 := of_decide_eq_true (List.all_eq_true.mp h q hq)
def lawB (E : zE) (b i : Nat) : List (Nat × Value) := [(0, .ref b), (1, .ref (zAd E 0)), (2, .ref (zAd E 128)), (3, .ref (zAd E 142)), (4, .int (nI i))]
section LC
variable {p : Program} {l : Launch} {e : Env} {R : Room} {s : State} {m : MethodId} {args : Array Value} {below : List Frame} {meth : Method} {c : Code} {H : Heap} {locs : List Loc} {cells slots : Nat} {Z : State → Prop} {cc : ByteArray} {E : zE} {u : zM} {pc b i L0 : Nat} {L : Array Slot} {xs : Nat → Int32}
/-- the script, where the law finds it -/
def lawS (s : State) (E : zE) (b L0 : Nat) (xs : Nat → Int32) : Prop := va_X b L0 xs s s.heap ∧ b < s.heap.size ∧ ¬ zA E b ∧ L0 ≤ 3072
theorem lawLoad (hx : p.tables.exec = Jvm.exec) (hb : c.code = cc) (hX : lawS s E b L0 xs) (hL : lv_has L 7 (lawB E b i)) (hS : va_S (zA E) s.heap H locs) : ∀ (ks : List Bool) (j pc : Nat) (st : List Value), j + ks.length ≤ 6 → i + 6 ≤ L0 → lawOk cc (lawRs ks j pc) = true →
    W p l e R s m args below meth c H locs cells slots Z (F0 m (lawE ks pc) L (((lawA xs i ks j).map Value.int).reverse ++ st)) → W p l e R s m args below meth c H locs cells slots Z (F0 m pc L st)
  | [], _, _, _, _, _, _, k => k
  | B :: t, j, pc, st, hj, hi, hd, k => by
    obtain ⟨hX1, hX2, hX3, hX4⟩ := hX
    simp only [List.length_cons] at hj
    have hd1 : lawOk cc (lawR B j pc) = true := by
      unfold lawOk lawRs at hd
      rw [List.all_append, Bool.and_eq_true] at hd
      exact hd.1
    have hd2 : lawOk cc (lawRs t (j + 1) (pc + lawN B)) = true := by
      unfold lawOk lawRs at hd
      rw [List.all_append, Bool.and_eq_true] at hd
      exact hd.2
    have g0 : L[0]? = some (.val (.ref b)) := hL.2.2 (0, .ref b) (by simp [lawB])
    have g4 : L[4]? = some (.val (.int (nI i))) := hL.2.2 (4, .int (nI i)) (by simp [lawB])
    refine lv_aload_n (i := 0) hx hb (lawOk_at hd1 (q := (pc, .aload_n 0, 1)) (by simp [lawR])) rfl g0 ?_
    refine lv_iload hx hb (lawOk_at hd1 (q := (pc + 1, .iload 4, 2)) (by simp [lawR])) g4 ?_
    refine lv_iconst (v := nI j) hx hb (lawOk_at hd1 (q := (pc + 3, .iconst (j : Int), 1)) (by simp [lawR])) rfl ?_
    refine lv_iadd hx hb (lawOk_at hd1 (q := (pc + 4, .iadd, 1)) (by simp [lawR])) ?_
    rw [nI_add]
    have e1 : (nI (i + j)).toNatClampNeg = i + j := nI_clamp (by omega)
    have hv : vp_in (nI (i + j)) L0 := by
      have h2 : i + j < L0 := by omega
      have h3 : i + j < 2 ^ 31 := by omega
      simpa [vp_nI h3] using h2
    refine va_sld hx hb hX1 hX2 hX3 hS hv (lawOk_at hd1 (q := (pc + 5, .iaload, 1)) (by simp [lawR])) ?_
    rw [e1]
    have ih := lawLoad hx hb ⟨hX1, hX2, hX3, hX4⟩ hL hS t (j + 1) (pc + lawN B) (.int (lawV B (xs (i + j))) :: st) (by omega) hi hd2 (by
      have : ((lawA xs i (B :: t) j).map Value.int).reverse ++ st = ((lawA xs i t (j + 1)).map Value.int).reverse ++ .int (lawV B (xs (i + j))) :: st := by simp [lawA]
      rw [← this]
      exact k)
    cases B with
    | false => exact ih
    | true =>
      refine lv_if_eq (tgt := pc + 13) hx hb (lawOk_at hd1 (q := (pc + 6, .ifCond .eq 7, 3)) (by simp [lawR])) (by omega) (fun h0 => ?_) (fun h0 => ?_)
      · refine lv_iconst (v := 0) hx hb (lawOk_at hd1 (q := (pc + 13, .iconst 0, 1)) (by simp [lawR])) rfl ?_
        have : lawV true (xs (i + j)) = 0 := by simp [lawV, h0]
        rw [this] at ih
        exact ih
      · refine lv_iconst (v := 1) hx hb (lawOk_at hd1 (q := (pc + 9, .iconst 1, 1)) (by simp [lawR])) rfl ?_
        refine lv_goto (tgt := pc + 14) hx hb (lawOk_at hd1 (q := (pc + 10, .goto 4, 3)) (by simp [lawR])) (by omega) ?_
        have : lawV true (xs (i + j)) = 1 := by simp [lawV, h0]
        rw [this] at ih
        exact ih
theorem lawI {ad : Nat → Nat} (q : List Int32) : (q.map Value.int).map (zCv ad) = q.map Value.int := by
  rw [List.map_map]; rfl
/-- how a case goes on -/
def lawNx (p : Program) (l : Launch) (e : Env) (R : Room) (s : State) (m : MethodId) (args : Array Value) (below : List Frame) (meth : Method) (c : Code) (cells slots : Nat) (Z : State → Prop) (E : zE) (b i : Nat) : Prop := ∀ (u1 : zM) (H1 : Heap) (locs1 : List Loc) (L1 : Array Slot), zIv u1 → yH 143 E u1 H1 → va_S (zA E) s.heap H1 locs1 → lv_has L1 7 (lawB E b i) → W p l e R s m args below meth c H1 locs1 (cells + 1) (slots + 6) Z (F0 m 2747 L1 [])
def lawRA (ks : List Bool) (pc ix im : Nat) : lawW := (pc, .aload_n 1, 1) :: (lawRs ks 1 (pc + 1) ++ ((lawE ks (pc + 1), .invokevirtual ix, 3) :: (lawE ks (pc + 1) + 3, .aload_n 2, 1) :: (lawRs ks 1 (lawE ks (pc + 1) + 4) ++ [(lawE ks (lawE ks (pc + 1) + 4), .invokevirtual im, 3), (lawE ks (lawE ks (pc + 1) + 4) + 3, .if_icmp .eq ((2747 : Int) - ((lawE ks (lawE ks (pc + 1) + 4) + 3 : Nat) : Int)), 3)])))
theorem lawOk_app {cc : ByteArray} {a b : lawW} (h : lawOk cc (a ++ b) = true) : lawOk cc a = true ∧ lawOk cc b = true := by
  unfold lawOk at *
  rw [List.all_append, Bool.and_eq_true] at h
  exact h
theorem lawOk_cons {cc : ByteArray} {q : Nat × Instr × Nat} {b : lawW} (h : lawOk cc (q :: b) = true) : decode cc q.1 = .ok q.2 ∧ lawOk cc b = true := by
  unfold lawOk at *
  rw [List.all_cons, Bool.and_eq_true] at h
  exact ⟨of_decide_eq_true h.1, h.2⟩
theorem yIntsL (q : List Int32) {r : List Int32} : ((q.map Value.int ++ r.map Value.int).all fun v => match v with
    | .int _ => true
    | _ => false) = true := by
  rw [← List.map_append, List.all_map]
  simp
theorem lawCaseA (hF : lawF p s m args c R E cc) (hcs : cells + 1 ≤ R.cells ∧ slots + 6 ≤ R.slots) (hX : lawS s E b L0 xs) (hi : i + 6 ≤ L0) (hN : lawNx p l e R s m args below meth c cells slots Z E b i) {ks : List Bool} {ix im x y : Nat} (hks : ks.length ≤ 5) (hd : lawOk cc (lawRA ks pc ix im) = true)
    (hk0 : (zMls.contains (13, ix, x) && decide (zOo x ≠ 13) && ySb (zOo x) false && decide (zRc x = 10)) = true) (hk1 : (zMls.contains (13, im, y) && decide (zOo y ≠ 13) && ySb (zOo y) true && decide (zRc y = 11)) = true) (hn0 : ks.length = zNa x) (hn1 : ks.length = zNa y) (hr0 : zRb x ≠ 0) (hr1 : zRb y ≠ 0)
    (hop : zOkA x y ((lawA xs i ks 1).map Value.int)) (hu : zIv u) (hH : yH 143 E u H) (hS : va_S (zA E) s.heap H locs) (hL : lv_has L 7 (lawB E b i)) : W p l e R s m args below meth c H locs cells slots Z (F0 m pc L []) := by
  have hF0 := hF
  obtain ⟨hx, hb, -⟩ := hF0
  unfold lawRA at hd
  obtain ⟨d0, hd⟩ := lawOk_cons hd
  obtain ⟨hd1, hd⟩ := lawOk_app hd
  obtain ⟨d1, hd⟩ := lawOk_cons hd
  obtain ⟨d2, hd⟩ := lawOk_cons hd
  obtain ⟨hd2, hd⟩ := lawOk_app hd
  obtain ⟨d3, hd⟩ := lawOk_cons hd
  obtain ⟨d4, -⟩ := lawOk_cons hd
  have hlen : (lawA xs i ks 1).length = ks.length := lawA_len xs i ks 1
  have g1 : L[1]? = some (.val (.ref (zAd E 0))) := hL.2.2 (1, .ref (zAd E 0)) (by simp [lawB])
  have g2 : L[2]? = some (.val (.ref (zAd E 128))) := hL.2.2 (2, .ref (zAd E 128)) (by simp [lawB])
  refine lv_aload_n (i := 1) hx hb d0 rfl g1 ?_
  refine lawLoad hx hb hX hL hS ks 1 (pc + 1) _ (by omega) hi hd1 ?_
  refine lcX (r := []) hF ⟨by omega, by omega⟩ hk0 (hop u hu) (by rw [List.length_map, hlen]; exact hn0) (by decide) (by rw [List.map_append, List.map_reverse, lawI]; rfl) hH hS hL.1 d1 (fun v u1 H1 locs1 hz hq _ hH1 hS1 => ?_)
  obtain ⟨a, rfl⟩ : ∃ a, v = some (.int a) := by
    rcases hz.1 with rfl | hz1
    · exact absurd (hz.2.mp rfl) hr0
    · exact hz1
  refine lv_aload_n (i := 2) hx hb d2 rfl g2 ?_
  refine lawLoad hx hb hX hL hS1 ks 1 (lawE ks (pc + 1) + 4) _ (by omega) hi hd2 ?_
  refine lcM (r := [.int a]) hF ⟨by omega, by omega⟩ hk1 hq (by rw [List.length_map, hlen]; exact hn1) (by simp) (yIntsL _ (r := [a])) (by rw [show ((List.map Value.int (lawA xs i ks 1)).reverse ++ Value.ref 128 :: [Value.int a]).map (zCv (zAd E)) = (List.map Value.int (lawA xs i ks 1)).reverse ++ .ref (zAd E 128) :: [.int a] from by rw [List.map_append, List.map_reverse, lawI]; rfl]; rfl) hH1 hS1 hL.1 d3 (fun v2 u2 H2 locs2 hz2 hq2 _ hH2 hS2 => ?_)
  obtain ⟨rfl, hI⟩ := hq2
  refine lv_icmp_eq (tgt := 2747) hx hb d4 (by omega) (fun _ => ?_) (fun h => absurd rfl h)
  exact W.widen (Nat.le_succ _) (Nat.le_add_right _ 6) (hN u2 H2 locs2 L hI hH2 hS2 hL)
def lawRT (ks : List Bool) (pc iw im : Nat) : lawW := (pc, .aload_n 1, 1) :: (lawRs ks 1 (pc + 1) ++ ((lawE ks (pc + 1), .aload_n 3, 1) :: (lawE ks (pc + 1) + 1, .invokestatic iw, 3) :: (lawE ks (pc + 1) + 4, .istore 5, 2) :: (lawE ks (pc + 1) + 6, .aload_n 2, 1) :: (lawRs ks 1 (lawE ks (pc + 1) + 7) ++ lawRU (lawE ks (lawE ks (pc + 1) + 7)) im)))
where lawRU (q im : Nat) : lawW := [(q, .invokevirtual im, 3), (q + 3, .istore 6, 2), (q + 5, .aload_n 2, 1), (q + 6, .invokevirtual 138, 3), (q + 9, .iload 5, 2), (q + 11, .if_icmp .eq 5, 3), (q + 16, .iload 5, 2), (q + 18, .ifCond .ne 15, 3), (q + 21, .aload_n 3, 1), (q + 22, .iconst 0, 1), (q + 23, .laload, 1), (q + 24, .iload 6, 2), (q + 26, .i2l, 1), (q + 27, .lcmp, 1), (q + 28, .ifCond .eq 5, 3), (q + 33, .goto ((2747 : Int) - ((q + 33 : Nat) : Int)), 3)]
end LC
