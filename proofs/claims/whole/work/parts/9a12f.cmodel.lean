/-! the list of cells is the world of 142 cells; the second constructor -/
def bEz (E : zE) (ad : Nat → Nat) : zE := zEa E (fun k => if k < 2000 then ad (bPi k) else zAd E k)
theorem bEz_ad (E : zE) (ad : Nat → Nat) {k : Nat} (h : k < 2000) : zAd (bEz E ad) k = ad (bPi k) := if_pos h
theorem bEz_tx (E : zE) (ad : Nat → Nat) {k : Nat} (h : 2000 ≤ k) : zAd (bEz E ad) k = zAd E k := if_neg (by omega)
theorem bPi_inj {i j : Nat} (hi : i < 142) (hj : j < 142) (h : bPi i = bPi j) : i = j := by
  unfold bPi at h
  split at h <;> split at h <;> (try split at h) <;> (try split at h) <;> (try split at h) <;> (try split at h) <;> omega
theorem bAt_ok {E : zE} {ad : Nat → Nat} {k : Nat} {c : bC} {H : Heap} (hk : k < 142) (hc : bMc[bPi k]? = some c) (h : va_at E.1 vwCl (ad (bPi k), bCo (zEa E ad) c) H) : va_at E.1 vwCl (zAd (bEz E ad) k, zCont (bEz E ad) (bU k) k) H := by
  have hm := List.all_eq_true.mp bMk_ok k (List.mem_range.mpr hk)
  unfold bMk at hm
  rw [hc] at hm
  rw [bEz_ad E ad (by omega)]
  have hU : ∀ j, bU k j = bUc (some c) j := fun j => by unfold bU; rw [hc]
  cases hs : zShapes[k]? with
  | none =>
    rw [hs] at hm
    rcases c with ⟨t, n, f⟩ | l | ⟨ci, fs⟩ <;> exact absurd hm Bool.false_ne_true
  | some sh =>
    rw [hs] at hm
    rcases c with ⟨t, n, f⟩ | l | ⟨ci, fs⟩
    · rcases sh with c2 | ⟨t2, n2⟩
      · exact absurd hm Bool.false_ne_true
      · have hm2 : (t == t2 && n == n2 && decide (t ≤ 2)) = true := hm
        simp only [Bool.and_eq_true, beq_iff_eq, decide_eq_true_eq] at hm2
        obtain ⟨⟨q1, q2⟩, ht⟩ := hm2
        subst q1
        subst q2
        have hf : bU k = f := funext hU
        rw [hf]
        match t, ht, hs, h with
        | 0, _, hs, h => rw [zCont_0 hs]; exact h
        | 1, _, hs, h => rw [zCont_1 hs]; exact h
        | 2, _, hs, h => rw [zCont_2 hs]; exact h
        | t + 3, ht, _, _ => omega
    · rcases sh with c2 | ⟨t2, n2⟩
      · exact absurd hm Bool.false_ne_true
      · have hm2 : (t2 == 3 && l.length == n2 && (List.range n2).all fun i => match l[i]? with
          | some (some x) => x == bPi (k + 1 + 5 * i) && decide (k + 1 + 5 * i < 142)
          | _ => false) = true := hm
        obtain ⟨hm3, hm4⟩ := Bool.and_eq_true_iff.mp hm2
        simp only [Bool.and_eq_true, beq_iff_eq] at hm3
        obtain ⟨q1, q2⟩ := hm3
        subst q1
        subst q2
        rw [zCont_3 hs]
        have h1 : H[ad (bPi k)]? = some (vp_cell (E.2.1 3) (l.length, .inr (.inr (.inr (.inr (fun i => (l.getD i none).map ad)))))) := h
        show H[ad (bPi k)]? = some (vp_cell (E.2.1 3) (l.length, .inr (.inr (.inr (.inr (fun i => some (zAd (bEz E ad) (k + 1 + 5 * i))))))))
        rw [h1, vp_cell_q, vp_cell_q]
        refine congrArg some (yArr fun j hj => ?_)
        have hj2 := List.all_eq_true.mp hm4 j (List.mem_range.mpr hj)
        show va_rf ((l.getD j none).map ad) = va_rf (some (zAd (bEz E ad) (k + 1 + 5 * j)))
        rw [List.getD_eq_getElem?_getD]
        split at hj2
        · rename_i x hx
          simp only [Bool.and_eq_true, beq_iff_eq, decide_eq_true_eq] at hj2
          obtain ⟨q5, hlt⟩ := hj2
          subst q5
          rw [hx, bEz_ad E ad (by omega)]
          rfl
        · exact absurd hj2 Bool.false_ne_true
    · rcases sh with c2 | ⟨t2, n2⟩
      · have hm2 : (ci == c2 && fs.length == (zFk ci).length && (List.range fs.length).all fun j => match fs[j]?, (zFk ci)[j]? with
          | some (.int _), some none => true
          | some (.ref x), some (some o) => x == bPi (k + o) && decide (k + o < 142)
          | _, _ => false) = true := hm
        obtain ⟨hm3, hm4⟩ := Bool.and_eq_true_iff.mp hm2
        simp only [Bool.and_eq_true, beq_iff_eq] at hm3
        obtain ⟨q1, hlen⟩ := hm3
        subst q1
        rw [zCont_o hs]
        have e : zFl (zAd (bEz E ad)) (bU k) k 0 (zFk ci) = fs.map (zCv ad) := by
          apply List.ext_getElem?
          intro j
          rw [zFl_at, List.getElem?_map]
          by_cases hj : j < fs.length
          · have hj2 := List.all_eq_true.mp hm4 j (List.mem_range.mpr hj)
            have hu := hU (0 + j)
            rw [Nat.zero_add] at hu
            rw [Nat.zero_add]
            split at hj2
            · rename_i x h1 h2
              have h3 : bU k j = x := by
                rw [hu]
                show (match fs[j]? with
                  | some (.int x) => x
                  | _ => 0) = x
                rw [h1]
              rw [h1, h2]
              show some (Value.int (bU k j)) = some (Value.int x)
              rw [h3]
            · rename_i x o h1 h2
              simp only [Bool.and_eq_true, beq_iff_eq, decide_eq_true_eq] at hj2
              obtain ⟨q5, hlt⟩ := hj2
              subst q5
              rw [h1, h2]
              show some (Value.ref (zAd (bEz E ad) (k + o))) = some (Value.ref (ad (bPi (k + o))))
              rw [bEz_ad E ad (by omega)]
            · exact absurd hj2 Bool.false_ne_true
          · rw [List.getElem?_eq_none (by omega), List.getElem?_eq_none (by omega)]
            rfl
        rw [e]
        exact h
      · exact absurd hm Bool.false_ne_true
theorem bMc_at {k : Nat} (hk : k < 142) : ∃ c, bMc[bPi k]? = some c := by
  have hm := List.all_eq_true.mp bMk_ok k (List.mem_range.mpr hk)
  unfold bMk at hm
  cases hc : bMc[bPi k]? with
  | none =>
    rw [hc] at hm
    exact absurd hm Bool.false_ne_true
  | some c => exact ⟨c, rfl⟩
theorem yWs_in {n : Nat} {E : zE} {u : zM} {k : Nat} {q : Nat × va_E} (h : (yWs n E u)[k]? = some q) : k < n ∧ q = (zAd E k, zCont E (u k) k) := by
  have hl := (List.getElem?_eq_some_iff.mp h).1
  have hk : k < n := by simpa [yWs] using hl
  rw [yWs_at E u hk] at h
  exact ⟨hk, (Option.some.inj h).symm⟩
theorem bH_yH {E : zE} {ad : Nat → Nat} {H : Heap} (h : bH (zEa E ad) bMc H) : yH 142 (bEz E ad) bU H := by
  obtain ⟨hP, hD, hs⟩ := h
  refine ⟨fun k q hq => ?_, ⟨fun i j x y hi hj hxy => ?_, fun k q hq => ?_⟩, hs⟩
  · obtain ⟨hk, rfl⟩ := yWs_in hq
    obtain ⟨c, hc⟩ := bMc_at hk
    exact bAt_ok hk hc (hP _ _ (bWs_at1 hc))
  · obtain ⟨hi2, rfl⟩ := yWs_in hi
    obtain ⟨hj2, rfl⟩ := yWs_in hj
    obtain ⟨c, hc⟩ := bMc_at hi2
    obtain ⟨c2, hc2⟩ := bMc_at hj2
    have e : ad (bPi i) = ad (bPi j) := by
      rw [← bEz_ad E ad (show i < 2000 by omega), ← bEz_ad E ad (show j < 2000 by omega)]
      exact hxy
    exact bPi_inj hi2 hj2 (hD.1 _ _ _ _ (bWs_at1 hc) (bWs_at1 hc2) e)
  · obtain ⟨hk, rfl⟩ := yWs_in hq
    obtain ⟨c, hc⟩ := bMc_at hk
    show zA E (zAd (bEz E ad) k)
    rw [bEz_ad E ad (by omega)]
    exact hD.2 _ _ (bWs_at1 hc)
/-- texts do not ask where the cells stand -/
theorem zSs_ge : (zSs.all fun q => decide (2000 ≤ q.2.2)) = true := by decide +kernel
theorem yX_tx {b : Bool} {E E2 : zE} {U : State} {H : Heap} (hb : E2.2.2.2 = E.2.2.2) (ha : ∀ k, 2000 ≤ k → zAd E2 k = zAd E k) (h : yX b E U H) : yX b E2 U H := by
  have hA : zA E2 = zA E := by unfold zA; rw [hb]
  refine ⟨fun own idx a hi ho => ?_, h.2.1, fun x hx => ?_, ?_, ?_, ?_, ?_⟩
  · rw [ha a (of_decide_eq_true (List.all_eq_true.mp zSs_ge _ hi))]
    exact h.1 own idx a hi ho
  · have h2 := hx.1
    rw [hA, ha x h2, ha (x + 1000) (by omega)]
    exact h.2.2.1 x hx
  · rw [hA]; exact h.2.2.2.1
  · rw [hA]; exact h.2.2.2.2.1
  · rw [hA]; exact h.2.2.2.2.2.1
  · rw [hA]; exact h.2.2.2.2.2.2
def bRm2 : Room := { frames := 100, cells := 13, slots := 14714, locals := 6000 }
def bE3 (E : zE) (ad : Nat → Nat) (t : State) : Prop := va_K E.1 vwCl (zTys E) t ∧ ∃ w, bW0 w ∧ yH 142 (bEz E ad) w t.heap
theorem bX12 {pc : Nat} {x : zIn} (h : zLk bcX12 pc = some x) : decode cX12_init pc = .ok (x.1, x.2.1) ∧ bOI 12 1 x = true := bTk (y := 11) (by decide) h
set_option maxRecDepth 100000 in
set_option maxHeartbeats 4000000 in
theorem bModel_met (l : Launch) (E : zE) (ad : Nat → Nat) : Met l (bY 11) (bW 11) bRm2 (va_Pc [.ref (ad 128)] (fun U => bB E ad bMb U ∧ yX true E U U.heap)) (va_Qv (bAg bMb ad) (bE3 E) (zA E)) 13 14714 (zA E) := by
  obtain ⟨g1, g2, g3, g4, g5, g6, g7, g8, g9, g10⟩ := bMw (y := 11) (by decide)
  refine Met.ofW (cc := cX12_init) (maxL := 1) (ret := none) g5 rfl ?_
  intro p e s m args below meth c s₁ B hml hv
  obtain ⟨rfl, ⟨hK, hH, hN⟩, hX⟩ := hv
  have hx := B.exec
  have hb := B.bytes
  have hr := B.returns
  have hts0 := atoms_spec (ws := bW 11) B.pre
  have hts : ∀ w ∈ yTS, w.before ([Value.ref (ad 128)] : List Value).toArray s = true := fun w hw => hts0 w (List.mem_cons_of_mem _ hw)
  have hown : s.vm.findClass (zOwn 12) = some m.cls := by
    show s.vm.findClass (zOwn (bOw 11)) = some m.cls
    rw [g7]
    exact findClass_of_methodNamed B.named
  have hlocks := B.notSynchronized
  have hnm : meth.name = "<init>" := by
    rw [(name_of_methodNamed B.named B.method).1]
    exact (g9 (by decide)).1
  have hl := lv_entry ([.ref (ad 128)]) (n := 1) (Nat.le_of_ble_eq_true rfl)
  rw [lg_entry_eq]
  generalize (lg_sl ([.ref (ad 128)]) ++ List.replicate (1 - (lg_sl ([.ref (ad 128)])).length) Slot.unset).toArray = ls at hl ⊢
  have hl : lv_has ls 1 (zCl ad [(0, .ref 128)]) := hl
  have hA : ∀ q, s.heap.size ≤ q → zA E q := fun q hq => Nat.le_trans hH.2.2 hq
  have hM := bMc_ok
  cases hr2 : bMr with
  | none => rw [hr2] at hM; cases hM
  | some o =>
    obtain ⟨ls1, st1, M1⟩ := o
    rw [hr2] at hM
    have hM3 : (decide (ls1 = [(0, Value.ref 128)]) && decide (st1 = [Value.ref 128]) && decide (M1.length = 142) && decide (bSz M1 = 25195)) = true := hM
    simp only [Bool.and_eq_true, decide_eq_true_eq] at hM3
    obtain ⟨⟨⟨q1, q2⟩, hM1⟩, hM2⟩ := hM3
    subst q1
    subst q2
    have hMe : bMc = M1 := by unfold bMc; rw [hr2]
    have hb0 : bMb.length = 129 := by
      have := bMa_ok.2.1
      unfold bMb
      rw [List.length_append, this]; rfl
    have hb1 : bSz bMb = 10481 := by
      have := bMa_ok.2.2.1
      unfold bMb
      rw [bSz_push, this]; decide +kernel
    have K : ∀ ad1 : Nat → Nat, bAg bMb ad ad1 → bMb.length ≤ M1.length → bSz bMb ≤ bSz M1 → bP p l e (headSpec (bW 11) bRm2).room s m ([Value.ref (ad 128)] : List Value).toArray below meth c (MQ below (va_Qv (bAg bMb ad) (bE3 E) (zA E)) ([Value.ref (ad 128)] : List Value).toArray s 13 14714 (zA E)) 1 E bMb.length (bSz bMb) ad1 156 [(0, .ref 128)] [.ref 128] M1 := by
      intro ad1 hag _ _ H locs L hH1 hS1 hL1
      rw [hb0, hb1, hM1, hM2]
      have hY := bH_yH (E := E) (ad := ad1) (by rw [hMe]; exact hH1)
      have hX2 : yX true (bEz E ad1) s s.heap := yX_tx (E := E) (E2 := bEz E ad1) rfl (fun k hk => bEz_tx E ad1 hk) hX
      have hz : zCall 60 false 198 [.ref 128] bU (fun v w => v = none ∧ bW0 w) := by
        have hrd : ∀ a b, a < 12 → b < 12 → bU 129 (11 + 12 * a + b) = 0 := fun a b ha hb => bZr_e bU_129.2.2.1 (by omega) (by omega)
        refine s_laysFars (d := 58) (r := fun _ _ => 0) (fun _ _ => Nat.zero_le _) (fun a b ha hb => hrd a b ha hb) (fun w h1 h2 => ⟨rfl, fun c h3 _ => by rw [h1 c h3], fun a b ha hb => ?_⟩)
        rw [h2 a b ha hb, fw_none]
      have hin : (12, 57, 198) ∈ zMls := List.mem_map.mpr ⟨(12, 57, 198, 136), by decide +kernel, rfl⟩
      have hMt := yCall_met l 142 (Or.inr rfl) true (bEz E ad1) 60 198 [.ref 128] bU _ (by decide) (by decide +kernel) (by decide +kernel) (Or.inr (by decide +kernel)) hz
      have e128 : bPi 128 = 128 := by decide
      rw [show List.map (zCv ad1) [Value.ref 128] = (([] : List Value).reverse ++ Value.ref 128 :: []).map (zCv (zAd (bEz E ad1))) from by
        show [Value.ref (ad1 128)] = [Value.ref (zAd (bEz E ad1) 128)]
        rw [bEz_ad E ad1 (by decide), e128]]
      refine ycV (own := 12) (d := 60) (nn := 142) (bb := true) (E := bEz E ad1) (as := []) (r := []) (x := 128) hx hb hml hown hts hK hX2 (fun {x q} g => ?_) (by show 60 + 9 ≤ 100; decide) (by show 64 * 60 + 664 ≤ 6000; decide) ⟨by show 142 - 129 ≤ 13; decide, by show 25195 - 10481 ≤ 14714; decide⟩ hin (by decide +kernel) (by decide +kernel) hMt (by decide +kernel) (by decide) (by decide +kernel) hY hS1 hL1.1 (show decode cX12_init 156 = .ok (.invokevirtual 57, 3) by decide +kernel) (fun v w H2 locs2 _ hq hH2 hS2 => ?_)
      · have hx9 := zSh_lt g
        have : x ≠ 142 := by
          rintro rfl
          have e : zShapes[142]? = some (.inr (2, 1)) := by decide +kernel
          rw [e] at g
          cases g
        omega
      · obtain ⟨rfl, hw⟩ := hq
        exact W.vret hx hb hr (fun t ht hW => ⟨⟨ad1, rfl, hag, va_K.moved hW.alike hK, w, hw, by rw [ht]; exact hH2⟩, hS2.F ht⟩) hS2.2.2 (show decode cX12_init 159 = .ok (.return_, 1) by decide +kernel) hlocks
    have key := bRun_sound (d := 6) (own := 12) hx hb hml hown hts hK hN hH.2.2 hA (fun pc x q => bX12 q) (Or.inr (Or.inr hnm)) (fun q => by rcases q with q | q <;> exact absurd q (by decide)) (mx := bMb.length + 13) (sx := bSz bMb + 14714) (by show 6 + 3 ≤ 100; decide) (by show 64 * 6 + 128 ≤ 6000; decide) (by show bMb.length + 13 - bMb.length ≤ 13; omega) (by show bSz bMb + 14714 - bSz bMb ≤ 14714; omega) (fun y2 as2 M3 M4 ad2 hy2 hc2 => bCall_met l E 6 y2 as2 M3 M4 ad2 hy2 hc2) 200 0 _ _ _ hr2 (Nat.le_refl _) (Nat.le_refl _) ad K s.heap [] ls hH va_S.rf hl
    rw [Nat.sub_self, Nat.sub_self] at key
    exact key
