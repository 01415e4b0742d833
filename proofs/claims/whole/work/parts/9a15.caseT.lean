/-! the law's cases with wrappers -/
theorem lawCmp (a : Int32) : lg_cmp a.toInt64 a.toInt64 = 0 := by
  unfold lg_cmp
  simp
section LT
variable {p : Program} {l : Launch} {e : Env} {R : Room} {s : State} {m : MethodId} {args : Array Value} {below : List Frame} {meth : Method} {c : Code} {H : Heap} {locs : List Loc} {cells slots : Nat} {Z : State → Prop} {cc : ByteArray} {E : zE} {u : zM} {pc b i L0 : Nat} {L : Array Slot} {xs : Nat → Int32}
theorem lawThrown (u : zM) : zCall 60 false 179 [.ref 128] u fun v w => v = some (.int (u 128 0)) ∧ w = u := tX12_thrown ⟨rfl, rfl⟩
/-- from the reference's answer on: its throw's number, then the answers -/
theorem lawTailT (hF : lawF p s m args c R E cc) (hcs : cells + 1 ≤ R.cells ∧ slots + 6 ≤ R.slots) (hN : lawNx p l e R s m args below meth c cells slots Z E b i) {q im y : Nat} (hd : lawOk cc (lawRT.lawRU q im) = true) (hk1 : (zMls.contains (13, im, y) && decide (zOo y ≠ 13) && ySb (zOo y) true && decide (zRc y = 11)) = true) {as : List Int32} (hn1 : as.length = zNa y) (hr1 : zRb y ≠ 0) {k : Int32}
    (h : (k = 0 ∧ zCall 60 false y (.ref 128 :: as.map Value.int) u fun v2 w3 => v2 = some (.int (u 142 0)) ∧ w3 128 0 = 0 ∧ zIv w3) ∨ (k ≠ 0 ∧ zCall 60 false y (.ref 128 :: as.map Value.int) u fun _ w3 => zIv w3 ∧ w3 128 0 = k)) (hH : yH 143 E u H) (hS : va_S (zA E) s.heap H locs) (hL : lv_has L 7 ((5, .int k) :: lawB E b i)) : W p l e R s m args below meth c H locs (cells + 1) (slots + 6) Z (F0 m q L ((as.map Value.int).reverse ++ [.ref (zAd E 128)])) := by
  have hF0 := hF
  obtain ⟨hx, hb, -⟩ := hF0
  have hK := hF.2.2.2.2.2.1
  have hd : lawOk cc (lawRT.lawRU q im) = true := hd
  unfold lawRT.lawRU at hd
  obtain ⟨d0, hd⟩ := lawOk_cons hd
  obtain ⟨d1, hd⟩ := lawOk_cons hd
  obtain ⟨d2, hd⟩ := lawOk_cons hd
  obtain ⟨d3, hd⟩ := lawOk_cons hd
  obtain ⟨d4, hd⟩ := lawOk_cons hd
  obtain ⟨d5, hd⟩ := lawOk_cons hd
  obtain ⟨d6, hd⟩ := lawOk_cons hd
  obtain ⟨d7, hd⟩ := lawOk_cons hd
  obtain ⟨d8, hd⟩ := lawOk_cons hd
  obtain ⟨d9, hd⟩ := lawOk_cons hd
  obtain ⟨d10, hd⟩ := lawOk_cons hd
  obtain ⟨d11, hd⟩ := lawOk_cons hd
  obtain ⟨d12, hd⟩ := lawOk_cons hd
  obtain ⟨d13, hd⟩ := lawOk_cons hd
  obtain ⟨d14, hd⟩ := lawOk_cons hd
  obtain ⟨d15, -⟩ := lawOk_cons hd
  dsimp only at d0 d1 d2 d3 d4 d5 d6 d7 d8 d9 d10 d11 d12 d13 d14 d15
  have hs142 : zShapes[142]? = some (.inr (2, 1)) := by decide +kernel
  have key : zCall 60 false y (.ref 128 :: as.map Value.int) u fun v w3 => zIv w3 ∧ w3 128 0 = k ∧ (k = 0 → v = some (.int (u 142 0))) := by
    rcases h with ⟨rfl, h⟩ | ⟨hk, h⟩
    · exact zCall_m 60 false _ _ _ _ _ (fun v w g => ⟨g.2.2, g.2.1, fun _ => g.1⟩) h
    · exact zCall_m 60 false _ _ _ _ _ (fun v w g => ⟨g.1, g.2, fun z => absurd z hk⟩) h
  refine lcM (r := []) hF ⟨by omega, by omega⟩ hk1 key (by rw [List.length_map]; exact hn1) (by decide) (yIntsL as (r := [])) (by rw [show ((List.map Value.int as).reverse ++ [Value.ref 128]).map (zCv (zAd E)) = (List.map Value.int as).reverse ++ [.ref (zAd E 128)] from by rw [List.map_append, List.map_reverse, lawI]; rfl]) hH hS hL.1 d0 (fun v u1 H1 locs1 hz hq h142 hH1 hS1 => ?_)
  obtain ⟨hI, h128, hv⟩ := hq
  obtain ⟨a, rfl⟩ : ∃ a, v = some (.int a) := by
    rcases hz.1 with rfl | hz1
    · exact absurd (hz.2.mp rfl) hr1
    · exact hz1
  refine lv_istore (lv' := (6, .int a) :: (5, .int k) :: lawB E b i) hx hb d1 hL (by decide) rfl (fun L2 hL2 => ?_)
  have g5 : L2[5]? = some (.val (.int k)) := hL2.2.2 (5, .int k) (by simp)
  have g6 : L2[6]? = some (.val (.int a)) := hL2.2.2 (6, .int a) (by simp)
  have g2 : L2[2]? = some (.val (.ref (zAd E 128))) := hL2.2.2 (2, .ref (zAd E 128)) (by simp [lawB])
  have g3 : L2[3]? = some (.val (.ref (zAd E 142))) := hL2.2.2 (3, .ref (zAd E 142)) (by simp [lawB])
  have hL0 : lv_has L2 7 (lawB E b i) := ⟨hL2.1, hL2.2.1, fun q hq => hL2.2.2 q (List.mem_cons_of_mem _ (List.mem_cons_of_mem _ hq))⟩
  refine lv_aload_n (i := 2) hx hb d2 rfl g2 ?_
  refine lcM (r := []) (as := []) (y := 179) hF ⟨by omega, by omega⟩ (by decide +kernel) (lawThrown u1) (by decide +kernel) (by decide) (by rfl) rfl hH1 hS1 hL2.1 d3 (fun v2 u2 H2 locs2 hz2 hq2 h142b hH2 hS2 => ?_)
  obtain ⟨rfl, rfl⟩ := hq2
  refine lv_iload hx hb d4 g5 ?_
  refine lv_icmp_eq (tgt := q + 16) hx hb d5 (by omega) (fun _ => ?_) (fun z => absurd h128 z)
  refine lv_iload hx hb d6 g5 ?_
  have hend : ∀ (pc2 : Nat) (d : decode cc pc2 = .ok (.goto ((2747 : Int) - ((pc2 : Nat) : Int)), 3)), W p l e R s m args below meth c H2 locs2 (cells + 1) (slots + 6) Z (F0 m pc2 L2 []) := fun pc2 d => lv_goto (tgt := 2747) hx hb d (by omega) (hN u2 H2 locs2 L2 hI hH2 hS2 hL0)
  refine lv_if_ne (tgt := q + 33) hx hb d7 (by omega) (fun _ => hend _ d15) (fun hk0 => ?_)
  have ha : a = u 142 0 := by simpa using hv hk0
  refine lv_aload_n (i := 3) hx hb d8 rfl g3 ?_
  refine lv_iconst (v := 0) hx hb d9 rfl ?_
  refine va_lald (f := fun j => (u2 142 j).toInt64) hx hb hK hH2.1 142 2 (by rw [yWs_at E u2 (by decide), zCont_2 hs142]) rfl (show ¬ ((0 : Int32) < 0 ∨ 1 ≤ (0 : Int32).toNatClampNeg) by decide) d10 ?_
  refine lv_iload hx hb d11 g6 ?_
  refine lv_i2l hx hb d12 rfl ?_
  refine W.lcmp hx hb d13 ?_
  have e0 : lg_cmp ((u2 142 (0 : Int32).toNatClampNeg).toInt64) a.toInt64 = 0 := by
    rw [ha, ← h142]
    exact lawCmp _
  rw [e0]
  refine lv_if_eq (tgt := q + 33) hx hb d14 (by omega) (fun _ => hend _ d15) (fun z => absurd rfl z)
theorem lawCaseT (hF : lawF p s m args c R E cc) (hcs : cells + 1 ≤ R.cells ∧ slots + 6 ≤ R.slots) (hX : lawS s E b L0 xs) (hi : i + 6 ≤ L0) (hN : lawNx p l e R s m args below meth c cells slots Z E b i) {ks : List Bool} {iw im y : Nat} (hks : ks.length ≤ 3) (hd : lawOk cc (lawRT ks pc iw im) = true)
    (hk1 : (zMls.contains (13, im, y) && decide (zOo y ≠ 13) && ySb (zOo y) true && decide (zRc y = 11)) = true) (hn1 : ks.length = zNa y) (hr1 : zRb y ≠ 0)
    {yw : MethodName} {cw : ByteArray} {hdl : wHd} {codes : List (Int32 × Int32)} (hM : wMet l E yw cw ks.length hdl ((lawA xs i ks 1).map Value.int) u (wV hdl (wN y ((lawA xs i ks 1).map Value.int)) (wT y ((lawA xs i ks 1).map Value.int) codes))) (hz : (hdl.all fun q => decide (q.2.2.2 ≠ 0)) = true) (hu1 : (hdl.all fun q => codes.all fun p => !decide (p.1 = q.2.2.1) || decide (p.2 = q.2.2.2)) = true)
    (hw1 : .methodLink RL iw yw ∈ zTS) (hw2 : .static yw ∈ zTS) (hw3 : .codeWith yw cw (ks.length + 3) (some .int) (wHh ks.length hdl) ∈ zTS) (hw4 : .initialized yw.cls ∈ zTS) (hd0 : yw.cls ≠ "java/lang/invoke/MethodHandle" ∧ yw.cls ≠ "java/lang/invoke/VarHandle" ∧ (parseMethodDescriptor yw.desc).map (fun d => d.parameters.length) = some (ks.length + 2))
    (hH : yH 143 E u H) (hS : va_S (zA E) s.heap H locs) (hL : lv_has L 7 (lawB E b i)) : W p l e R s m args below meth c H locs cells slots Z (F0 m pc L []) := by
  have hF0 := hF
  obtain ⟨hx, hb, -⟩ := hF0
  unfold lawRT at hd
  obtain ⟨d0, hd⟩ := lawOk_cons hd
  obtain ⟨hd1, hd⟩ := lawOk_app hd
  obtain ⟨d1, hd⟩ := lawOk_cons hd
  obtain ⟨d2, hd⟩ := lawOk_cons hd
  obtain ⟨d3, hd⟩ := lawOk_cons hd
  obtain ⟨d4, hd⟩ := lawOk_cons hd
  obtain ⟨hd2, hd⟩ := lawOk_app hd
  have hlen : (lawA xs i ks 1).length = ks.length := lawA_len xs i ks 1
  have g1 : L[1]? = some (.val (.ref (zAd E 0))) := hL.2.2 (1, .ref (zAd E 0)) (by simp [lawB])
  have g3 : L[3]? = some (.val (.ref (zAd E 142))) := hL.2.2 (3, .ref (zAd E 142)) (by simp [lawB])
  refine lv_aload_n (i := 1) hx hb d0 rfl g1 ?_
  refine lawLoad hx hb hX hL hS ks 1 (pc + 1) _ (by omega) hi hd1 ?_
  refine lv_aload_n (i := 3) hx hb d1 rfl g3 ?_
  refine lcW hF hcs hM hw1 hw2 hw3 hw4 hd0 hks (by rw [List.length_map, hlen]) (by rw [List.map_append, List.map_cons, List.map_reverse, lawI]; rfl) hH hS hL.1 d2 (fun v u1 H1 locs1 hzv hV hH1 hS1 => ?_)
  obtain ⟨k, rfl, hk⟩ : ∃ k, v = some (.int k) ∧ ((k = 0 ∧ zCall 60 false y (.ref 128 :: (lawA xs i ks 1).map Value.int) u1 fun v2 w3 => v2 = some (.int (u1 142 0)) ∧ w3 128 0 = 0 ∧ zIv w3) ∨ (k ≠ 0 ∧ zCall 60 false y (.ref 128 :: (lawA xs i ks 1).map Value.int) u1 fun _ w3 => zIv w3 ∧ w3 128 0 = k)) := by
    rcases wV_U hz hu1 hV with ⟨hv, h⟩ | ⟨k, hk, hv, h⟩
    · exact ⟨0, hv, Or.inl ⟨rfl, h⟩⟩
    · exact ⟨k, hv, Or.inr ⟨hk, h⟩⟩
  refine lv_istore (lv' := (5, .int k) :: lawB E b i) hx hb d3 hL (by decide) rfl (fun L2 hL2 => ?_)
  have g2 : L2[2]? = some (.val (.ref (zAd E 128))) := hL2.2.2 (2, .ref (zAd E 128)) (by simp [lawB])
  have hL0 : lv_has L2 7 (lawB E b i) := ⟨hL2.1, hL2.2.1, fun q hq => hL2.2.2 q (List.mem_cons_of_mem _ hq)⟩
  refine lv_aload_n (i := 2) hx hb d4 rfl g2 ?_
  refine lawLoad hx hb hX hL0 hS1 ks 1 (lawE ks (pc + 1) + 7) _ (by omega) hi hd2 ?_
  exact lawTailT hF hcs hN hd hk1 (by rw [hlen]; exact hn1) hr1 hk hH1 hS1 hL2
end LT
