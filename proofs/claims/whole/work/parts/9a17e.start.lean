/-! the law from its entry to its loop -/
theorem zFl_ag {ad ad2 : Nat → Nat} (h : ∀ x, x ≠ 142 → ad2 x = ad x) (r : Nat → Int32) (k : Nat) : ∀ (l : List (Option Nat)) (j : Nat), (l.all fun o => match o with
    | some o => decide (k + o ≠ 142)
    | none => true) = true → zFl ad2 r k j l = zFl ad r k j l
  | [], _, _ => rfl
  | none :: t, j, hl => by
    simp only [List.all_cons, Bool.and_eq_true] at hl
    show Value.int (r j) :: zFl ad2 r k (j + 1) t = _ :: _
    rw [zFl_ag h r k t (j + 1) hl.2]
  | some o :: t, j, hl => by
    simp only [List.all_cons, Bool.and_eq_true, decide_eq_true_eq] at hl
    show Value.ref (ad2 (k + o)) :: zFl ad2 r k (j + 1) t = Value.ref (ad (k + o)) :: zFl ad r k (j + 1) t
    rw [zFl_ag h r k t (j + 1) hl.2, h _ hl.1]
theorem bSh_ok : ((List.range 142).all fun k => match zShapes[k]? with
    | some (.inl ci) => (zFk ci).all fun o => match o with
      | some o => decide (k + o ≠ 142)
      | none => true
    | some (.inr (t, _)) => decide (t < 3) || decide (k = 60)
    | none => true) = true := by decide +kernel
theorem zCont_ag {E E2 : zE} (he : E2.2.1 = E.2.1) (h : ∀ x, x ≠ 142 → zAd E2 x = zAd E x) (r : Nat → Int32) {k : Nat} (hk : k < 142) : zCont E2 r k = zCont E r k := by
  have hs := List.all_eq_true.mp bSh_ok k (List.mem_range.mpr hk)
  cases hq : zShapes[k]? with
  | none => simp only [zCont, hq]
  | some sh =>
    rw [hq] at hs
    rcases sh with ci | ⟨t, n⟩
    · rw [zCont_o hq, zCont_o hq, zFl_ag h r k _ 0 hs]
    · match t, hq, hs with
      | 0, hq, _ => rw [zCont_0 hq, zCont_0 hq, he]
      | 1, hq, _ => rw [zCont_1 hq, zCont_1 hq, he]
      | 2, hq, _ => rw [zCont_2 hq, zCont_2 hq, he]
      | t + 3, hq, hs =>
        have hk60 : k = 60 := by
          simp only [Bool.or_eq_true, decide_eq_true_eq] at hs
          omega
        subst hk60
        have e : zShapes[60]? = some (.inr (3, 12)) := by decide +kernel
        rw [zCont_3 e, zCont_3 e, he]
        have e2 : (fun i => some (zAd E2 (60 + 1 + 5 * i))) = fun i => some (zAd E (60 + 1 + 5 * i)) := funext fun i => by rw [h _ (by omega)]
        rw [e2]
def bEf (E : zE) (ad : Nat → Nat) (q : Nat) : zE := zEa E (fun k => if k = 142 then q else if k < 2000 then ad (bPi k) else zAd E k)
theorem bEf_ad (E : zE) (ad : Nat → Nat) (q : Nat) {k : Nat} (h : k < 142) : zAd (bEf E ad q) k = ad (bPi k) := by
  show (if k = 142 then q else if k < 2000 then ad (bPi k) else zAd E k) = _
  rw [if_neg (by omega), if_pos (by omega)]
theorem bEf_q (E : zE) (ad : Nat → Nat) (q : Nat) : zAd (bEf E ad q) 142 = q := by
  show (if 142 = 142 then q else if 142 < 2000 then ad (bPi 142) else zAd E 142) = q
  rw [if_pos rfl]
theorem bEf_tx (E : zE) (ad : Nat → Nat) (q : Nat) {k : Nat} (h : 2000 ≤ k) : zAd (bEf E ad q) k = zAd E k := by
  show (if k = 142 then q else if k < 2000 then ad (bPi k) else zAd E k) = _
  rw [if_neg (by omega), if_neg (by omega)]
theorem yWs_143 (E : zE) (ad : Nat → Nat) (q : Nat) (w : zM) : yWs 143 (bEf E ad q) (zRow w 142 fun _ => 0) = yWs 142 (bEz E ad) w ++ [(q, .inl (E.2.1 2, (1, .inr (.inl (fun _ => (0 : Int32).toInt64)))))] := by
  unfold yWs
  rw [show List.range 143 = List.range 142 ++ [142] from List.range_succ, List.map_append, List.map_cons, List.map_nil]
  refine congr (congrArg HAppend.hAppend ?_) ?_
  · refine List.map_congr_left fun k hk => ?_
    have hk := List.mem_range.mp hk
    rw [zRow_ne _ _ (by omega), bEf_ad E ad q hk, bEz_ad E ad (by omega)]
    congr 1
    refine zCont_ag (E := bEz E ad) (E2 := bEf E ad q) rfl (fun x hx => ?_) _ hk
    show (if x = 142 then q else if x < 2000 then ad (bPi x) else zAd E x) = if x < 2000 then ad (bPi x) else zAd E x
    rw [if_neg hx]
  · have e : zShapes[142]? = some (.inr (2, 1)) := by decide +kernel
    rw [bEf_q, zRow_self, zCont_2 e]
    rfl
section LG
variable {p : Program} {l : Launch} {e : Env} {s : State} {m : MethodId} {args : Array Value} {below : List Frame} {meth : Method} {c : Code} {Z : State → Prop} {E : zE} {b L0 : Nat} {xs : Nat → Int32}
set_option maxRecDepth 100000 in
set_option maxHeartbeats 4000000 in
theorem lawGo (hlt : l.stackTraces = false) (hx : p.tables.exec = Jvm.exec) (hb : c.code = cLL) (hml : c.maxLocals = 7) (hown : s.vm.findClass RL = some m.cls) (hts : ∀ w ∈ yTS, w.before args s = true) (hK : va_K E.1 vwCl (zTys E) s) (hN : bNx s) (hX0 : yX false E s s.heap) (hX1 : yX true (yEd E) s s.heap) (hbase : E.2.2.2 = s.heap.size) (hX : va_X b L0 xs s s.heap) (hbl : b < s.heap.size) (hL0 : L0 ≤ 3072)
    (hEnd : ∀ (H1 : Heap) (locs1 : List Loc) (L1 : Array Slot), va_S (zA E) s.heap H1 locs1 → W p l e room_1 s m args below meth c H1 locs1 room_1.cells room_1.slots Z (F0 m 2754 L1 [.int 1])) {ls : Array Slot} (hl : lv_has ls 7 [(0, .ref b)]) : W p l e room_1 s m args below meth c s.heap [] 0 0 Z (F0 m 0 ls []) := by
  have htz := yts hts
  have hA : ∀ q, s.heap.size ≤ q → zA E q := fun q hq => by show E.2.2.2 ≤ q; omega
  have hS : va_S (zA E) s.heap s.heap [] := va_S.rf
  have hR1 : room_1.cells = 601024 := rfl
  have hR2 : room_1.slots = 7293034 := rfl
  have hW0 : .classLink RL 8 RX11 ∈ zTS ∧ .classLink RL 119 RX12 ∈ zTS ∧ .instantiable RX11 12 ∈ zTS ∧ .instantiable RX12 28 ∈ zTS ∧ .initialized RX11 ∈ zTS ∧ .initialized RX12 ∈ zTS ∧ .methodLink RL 118 (bY 10) ∈ zTS ∧ .methodLink RL 121 (bY 11) ∈ zTS ∧ .arrayClass .long ∈ zTS := ⟨bWd_in (by decide +kernel), bWd_in (by decide +kernel), bWd_in (by decide +kernel), bWd_in (by decide +kernel), bWd_in (by decide +kernel), bWd_in (by decide +kernel), bWd_in (by decide +kernel), bWd_in (by decide +kernel), bWd_in (by decide +kernel)⟩
  obtain ⟨w1, w2, w3, w4, w5, w6, w7, w8, w9⟩ := hW0
  obtain ⟨m0, mlen, msz, mok⟩ := bMa_ok
  -- new MilkDays
  refine bNew_go (own := 13) (E := E) (ad := E.2.2.1) (M := []) hx hb hown htz hK (Nat.le_of_eq hbase) hA (a := 10) (idx := 8) (by decide) w1 w3 w5 rfl (by rw [hR1]; decide) (by rw [hR2]; decide +kernel) (show decode cLL 0 = .ok (.new 8, 3) by decide +kernel) ⟨fun k q hk => by simp [bWs] at hk, ⟨fun i j x y hi => by simp [bWs] at hi, fun k q hk => by simp [bWs] at hk⟩, Nat.le_of_eq hbase⟩ hS (fun q0 H1 hH1 hS1 => ?_)
  refine lv_dup hx hb (show decode cLL 3 = .ok (.dup, 1) by decide +kernel) rfl ?_
  obtain ⟨Ma, hMa⟩ := Option.isSome_iff_exists.mp m0
  have eMa : bMa = Ma := by unfold bMa; rw [hMa]; rfl
  obtain ⟨g1, g2, g3, g4, g5, g6, g7, -, g9, -⟩ := bMw (y := 10) (by decide)
  obtain ⟨g10, g11⟩ := g9 (by decide)
  have hMt := bCall_met l E 6 10 [.ref 0] bM0 bMa (bAd E.2.2.1 0 q0) (by decide) (by rw [eMa]; exact hMa)
  refine va_callv (va_runI (As := []) (b := q0) (rest := [.ref q0]) ⟨hx, hb, hml, hown, hts⟩ hMt ⟨callB_of 0 hts (bGood (by decide)) rfl rfl rfl (htz _ g2) (htz _ w7) ⟨g6.1, g6.2, g4⟩ ⟨by show 6 + 2 + 1 ≤ 2048; decide, by show 8 + (bMx 10 + 11) + (64 * 6 + 64) ≤ 84000; omega⟩, g10, htz _ g11⟩ (bPs hK hN [.ref 0] hH1) rfl rfl hl.1 rfl (lv_room (Nat.le_of_ble_eq_true rfl)) (show decode cLL 4 = .ok (.invokespecial 118, 3) by decide +kernel) ⟨by rw [hR1]; decide +kernel, by rw [hR2]; decide +kernel⟩) hS1 (fun _ _ h => h) (fun _ h => h) (fun ad2 t2 H2 locs2 ht2 _ hag2 hB2 _ _ hS2 => ?_)
  have hH2 : bH (zEa E ad2) bMa H2 := by rw [← ht2]; exact hB2.2
  have e0 : ad2 0 = q0 := hag2 0 (by decide)
  refine lv_astore_n (k := 1) (lv' := [(1, .ref q0), (0, .ref b)]) hx hb (show decode cLL 7 = .ok (.astore_n 1, 1) by decide +kernel) rfl hl (by decide) rfl (fun L2 hL2 => ?_)
  -- new MilkDaysModel
  refine bNew_go (own := 13) (E := E) (ad := ad2) (M := bMa) hx hb hown htz hK (Nat.le_of_eq hbase) hA (a := 11) (idx := 119) (by decide) w2 w4 w6 mok (by rw [hR1]; decide +kernel) (by rw [hR2]; decide +kernel) (show decode cLL 8 = .ok (.new 119, 3) by decide +kernel) hH2 hS2 (fun q1 H3 hH3 hS3 => ?_)
  refine lv_dup hx hb (show decode cLL 11 = .ok (.dup, 1) by decide +kernel) rfl ?_
  have e1 : bAd ad2 bMa.length q1 128 = q1 := by rw [mlen]; exact if_pos rfl
  obtain ⟨f1, f2, f3, f4, f5, f6, f7, -, f9, -⟩ := bMw (y := 11) (by decide)
  obtain ⟨f10, f11⟩ := f9 (by decide)
  have hMm := bModel_met l (yEd E) (bAd ad2 bMa.length q1)
  rw [e1] at hMm
  refine va_callv (va_runI (As := []) (b := q1) (rest := [.ref q1]) ⟨hx, hb, hml, hown, hts⟩ hMm ⟨callB_of 0 hts (bGood (by decide)) rfl rfl rfl (htz _ f2) (htz _ w8) ⟨f6.1, f6.2, f4⟩ ⟨by show 100 + 1 ≤ 2048; decide, by show 8 + (bMx 11 + 11) + 6000 ≤ 84000; omega⟩, f10, htz _ f11⟩ ⟨fun a U g mk q => ⟨q.1, ⟨va_K.moved (u := U) (U := U.calling g mk a) (Vm.Alike.refl U.vm) q.2.1.1, q.2.1.2.1, bNx.same (u := U) (U := U.calling g mk a) rfl q.2.1.2.2⟩, yX.same (u := U) (U := U.calling g mk a) rfl q.2.2⟩, fun U hU hW => ⟨rfl, ⟨va_K.moved hW.alike hK, by rw [hU]; exact hH3, hN.warm hW⟩, hX1.warm hW (by rw [hU]; exact hS3.2.1)⟩⟩ rfl rfl hL2.1 rfl (lv_room (Nat.le_of_ble_eq_true rfl)) (show decode cLL 12 = .ok (.invokespecial 121, 3) by decide +kernel) ⟨by rw [hR1]; decide +kernel, by rw [hR2]; decide +kernel⟩) hS3 (fun _ _ h => h) (fun _ h => h) (fun ad4 t4 H4 locs4 ht4 _ hag4 hB4 _ _ hS4 => ?_)
  obtain ⟨-, w, hw, hY4⟩ := hB4
  rw [ht4] at hY4
  have hb0 : bMb.length = 129 := by
    unfold bMb
    rw [List.length_append, mlen]; rfl
  have e2 : ad4 128 = q1 := (hag4 128 (by rw [hb0]; decide)).trans e1
  have e3 : ad4 0 = q0 := (hag4 0 (by rw [hb0]; decide)).trans ((show bAd ad2 bMa.length q1 0 = ad2 0 from if_neg (by rw [mlen]; decide)).trans e0)
  have eE : bEz (yEd E) ad4 = yEd (bEz E ad4) := by
    have h : (fun k => if k < 2000 then ad4 (bPi k) else (if k < 2000 then E.2.2.1 k else E.2.2.1 (k + 8000))) = fun k => if k < 2000 then (if k < 2000 then ad4 (bPi k) else E.2.2.1 k) else (if k + 8000 < 2000 then ad4 (bPi (k + 8000)) else E.2.2.1 (k + 8000)) := by
      funext k
      by_cases hk : k < 2000
      · simp only [if_pos hk]
      · simp only [if_neg hk, if_neg (show ¬ k + 8000 < 2000 by omega)]
    exact congrArg (fun f => ((E.1, E.2.1, f, E.2.2.2) : zE)) h
  rw [eE] at hY4
  have hY := (yH_side (by decide)).mp hY4
  refine lv_astore_n (k := 2) (lv' := [(2, .ref q1), (1, .ref q0), (0, .ref b)]) hx hb (show decode cLL 15 = .ok (.astore_n 2, 1) by decide +kernel) rfl hL2 (by decide) rfl (fun L3 hL3 => ?_)
  refine lv_iconst (v := 1) hx hb (show decode cLL 16 = .ok (.iconst 1, 1) by decide +kernel) rfl ?_
  refine va_newa (atype := .long) (a0 := (1, .inr (.inl (fun _ => (0 : Int32).toInt64)))) hx hb (htz _ w9) rfl hK hY.1 hY.2.1 hS4 hA (fun cA => by rw [vp_cell_l, show (0 : Int32).toInt64 = 0 from by decide]; rfl) (by decide) (show (1 : Int32).toNatClampNeg = 1 by decide) (by decide) (by rw [hR1]; decide +kernel) (by rw [hR2]; decide +kernel) (show decode cLL 17 = .ok (.newarray .long, 2) by decide +kernel) (fun q2 cA H5 hK5 hP5 hD5 hS5 => ?_)
  have ec : cA = E.2.1 2 := Option.some.inj ((hK5.2 4 _ rfl).2.symm.trans (hK.2 2 _ rfl).2)
  subst ec
  have eW := yWs_143 E ad4 q2 w
  have hY5 : yH 143 (bEf E ad4 q2) (zRow w 142 fun _ => 0) H5 := ⟨by rw [eW]; exact hP5, by rw [eW]; exact hD5, Nat.le_trans (Nat.le_of_eq hbase) hS5.1⟩
  refine lv_astore_n (k := 3) (lv' := [(3, .ref q2), (2, .ref q1), (1, .ref q0), (0, .ref b)]) hx hb (show decode cLL 19 = .ok (.astore_n 3, 1) by decide +kernel) rfl hL3 (by decide) rfl (fun L4 hL4 => ?_)
  refine lv_iconst (v := 0) hx hb (show decode cLL 20 = .ok (.iconst 0, 1) by decide +kernel) rfl ?_
  refine lv_istore (lv' := [(4, .int 0), (3, .ref q2), (2, .ref q1), (1, .ref q0), (0, .ref b)]) hx hb (show decode cLL 21 = .ok (.istore 4, 2) by decide +kernel) hL4 (by decide) rfl (fun L5 hL5 => ?_)
  have hF : lawF p s m args c room_1 (bEf E ad4 q2) cLL := ⟨hx, hb, hml, hown, hts, hK, yX_tx (E := E) (E2 := bEf E ad4 q2) rfl (fun k hk => bEf_tx E ad4 q2 hk) hX0, yX_tx (E := yEd E) (E2 := yEd (bEf E ad4 q2)) rfl (fun k hk => by
    show (if k < 2000 then _ else zAd (bEf E ad4 q2) (k + 8000)) = if k < 2000 then _ else zAd E (k + 8000)
    rw [if_neg (by omega), if_neg (by omega), bEf_tx E ad4 q2 (by omega)]) hX1, by decide, by decide⟩
  have hwI : zIv (zRow w 142 fun _ => 0) := bW0_inv ⟨fun c h1 h2 => by rw [zRow_ne _ _ h2]; exact hw.1 c h1 h2, fun a b ha hb => by rw [zRow_ne _ _ (by decide)]; exact hw.2 a b ha hb⟩
  refine lawLoop hlt hF (b := b) (L0 := L0) (xs := xs) ⟨hX, hbl, fun q => by have : E.2.2.2 ≤ b := q; omega, hL0⟩ (fun H1 locs1 L1 hS1 => hEnd H1 locs1 L1 hS1) 512 0 _ _ _ H5 _ L5 (by omega) (by decide) (by rw [hR1]; decide +kernel) (by rw [hR2]; decide +kernel) hwI hY5 hS5 ⟨hL5.1, hL5.2.1, fun q hq => hL5.2.2 q ?_⟩
  have a0 : zAd (bEf E ad4 q2) 0 = q0 := (bEf_ad E ad4 q2 (by decide)).trans e3
  have a1 : zAd (bEf E ad4 q2) 128 = q1 := (bEf_ad E ad4 q2 (by decide)).trans e2
  unfold lawB at hq
  rw [a0, a1, bEf_q] at hq
  simp only [List.mem_cons, List.not_mem_nil, or_false] at hq
  rcases hq with rfl | rfl | rfl | rfl | rfl
  · simp
  · simp
  · simp
  · simp
  · exact List.mem_cons_self
end LG
