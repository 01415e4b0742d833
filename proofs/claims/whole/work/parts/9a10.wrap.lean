/-! a run whose end is a plain fact: the fact; the wrappers one by one -/
theorem zStep_pure {C : Bool → Nat → List Value → zM → (Option Value → zM → Prop) → Prop} {q : Prop} (hC : ∀ y as u, C false y as u (fun _ _ => q) → q) {cd : zCd} {rb : Nat} {pc : Nat} {ls : zLs} {st : List Value} {u : zM} (h : zStep C cd rb false (fun _ _ _ _ => q) (fun _ _ => q) pc ls st u) : q := by
  unfold zStep at h
  cases hq : zLk cd pc with
  | none => rw [hq] at h; exact False.elim h
  | some x =>
    rw [hq] at h
    obtain ⟨i, n, a, b, k, v⟩ := x
    dsimp only at h
    cases i
    all_goals try dsimp only at h
    case ldc idx => split at h <;> exact h
    case ifCond c o =>
      obtain ⟨x, r, rfl, h⟩ := zI1_e h
      obtain ⟨t, ht, h⟩ := zJ_e h
      cases c <;> first | exact Decidable.byCases h.1 h.2 | exact Decidable.byCases h.2 h.1
    case if_icmp c o =>
      obtain ⟨y, x, r, rfl, h⟩ := zI2_e h
      obtain ⟨t, ht, h⟩ := zJ_e h
      cases c <;> first | exact Decidable.byCases h.1 h.2 | exact Decidable.byCases h.2 h.1
    case tableswitch o lo hi os =>
      obtain ⟨x, r, rfl, hz, ho, h⟩ := zI1_e h
      by_cases hout : x.toInt < lo ∨ hi < x.toInt
      · obtain ⟨t, ht, h⟩ := zJ_e (ho hout)
        exact h
      · have g1 : ¬ x.toInt < lo := fun q => hout (Or.inl q)
        have g2 : ¬ hi < x.toInt := fun q => hout (Or.inr q)
        have g3 : (x.toInt - lo).toNat < os.size := by omega
        obtain ⟨t, ht, h⟩ := zJ_e (zSw_e os.toList lo h (x.toInt - lo).toNat os[(x.toInt - lo).toNat] (by simp [g3]) (by omega))
        exact h
    case getfield idx =>
      obtain ⟨x, r, rfl, hs, h⟩ := zR1_e h
      split at h
      · exact h
      · exact h
      · exact h.elim
    case putfield idx =>
      obtain ⟨y, x, r, rfl, hs, h⟩ := zIR_e h
      split at h
      · split at h
        · exact h
        · exact h.2
      · exact h.elim
    case ireturn =>
      obtain ⟨x, r, rfl, h1, h2, h⟩ := zI1_e h
      split at h
      · exact h
      · exact h.2
      · exact h.elim
    case return_ => exact h.2.2.2
    case new idx => exact absurd h.1 (by decide)
    case goto o =>
      obtain ⟨t, ht, h⟩ := zJ_e h
      exact h
    case ifnonnull o =>
      obtain ⟨x, r, rfl, h⟩ := zR1_e h
      obtain ⟨t, ht, h⟩ := zJ_e h
      exact h
    case iload_n j =>
      obtain ⟨x, hx, h⟩ := zLi_e h
      exact h
    case iload j =>
      obtain ⟨x, hx, h⟩ := zLi_e h
      exact h
    case iinc j z =>
      obtain ⟨x, hx, h⟩ := zLi_e h
      exact h
    case aload_n j =>
      obtain ⟨x, hx, h⟩ := zLr_e h
      exact h
    case aload j =>
      obtain ⟨x, hx, h⟩ := zLr_e h
      exact h
    case arraylength =>
      obtain ⟨x, r, rfl, t, n0, hs, h⟩ := zR1_e h
      exact h
    case lastore =>
      obtain ⟨w, y, x, r, rfl, hs, hw, h⟩ := zLIR_e h
      exact h
    case invokevirtual idx =>
      split at h
      · obtain ⟨x, r, rfl, h1, h2, h⟩ := zR1_e h
        exact h
      · obtain ⟨y, x, r, rfl, h1, h2, h3, h⟩ := zIR_e h
        exact h
      · obtain ⟨as, st1, rfl, hlen, h0⟩ := zPop_e b st [] h
        obtain ⟨x, r, rfl, hs, hr, h1⟩ := zR1_e h0
        rcases h1 with h1 | h1
        · exact hC _ _ _ h1
        · exact absurd h1.1 (by decide)
    case invokestatic idx =>
      rcases k with _ | _ | _ | k
      · obtain ⟨as, r, rfl, hlen, hr, h⟩ := zPop_e b st [] h
        rcases h with h1 | h1
        · exact hC _ _ _ h1
        · exact absurd h1.1 (by decide)
      · obtain ⟨y, x, r, rfl, hr, h⟩ := zI2_e h
        exact h
      · obtain ⟨y, x, r, rfl, hr, h⟩ := zI2_e h
        exact h
      · split at h
        · exact absurd ‹_› (by omega)
        · exact absurd ‹_› (by omega)
        · exact absurd ‹_› (by omega)
        · exact h.elim
        · obtain ⟨nn, dp, x, sp, x0, r, rfl, hr, hs, h⟩ := zCpy_e h
          exact h
    all_goals first
      | exact h
      | (obtain ⟨x, r, rfl, h⟩ := zI1_e h; exact h)
      | (obtain ⟨y, x, r, rfl, h⟩ := zI2_e h; exact h)
      | (obtain ⟨y, x, r, rfl, h0, h⟩ := zI2_e h; exact h)
      | (obtain ⟨x, r, rfl, h⟩ := zR1_e h; exact h)
      | (obtain ⟨x, r, rfl, h0, h⟩ := zV1_e h; exact h)
      | (obtain ⟨x, y, r, rfl, h0, h⟩ := zV2_e h; exact h)
      | (obtain ⟨y, x, r, rfl, h⟩ := zL2_e h; exact h)
      | (obtain ⟨y, x, r, rfl, h0, h⟩ := zIR_e h; exact h)
      | (obtain ⟨w, y, x, r, rfl, h0, h⟩ := zIIR_e h; exact h)
      | exact h.elim
theorem zCall_pure {q : Prop} : ∀ (d y : Nat) (as : List Value) (u : zM), zCall d false y as u (fun _ _ => q) → q
  | 0, _, _, _, h => h.elim
  | d + 1, _, _, _, ⟨_, _, h⟩ => h (fun _ _ _ _ => q) ⟨fun _ _ _ _ hs => zStep_pure (fun y as u g => zCall_pure d y as u g) hs, fun _ _ _ _ _ _ g => g⟩
/-- a wrapper's rows, as a whole -/
def wHkB (cc : ByteArray) (mx : Nat) (q : Nat × Nat × Int32 × Int32) : Bool := match decode cc q.1 with
  | .ok (.astore_n k, 1) => decide (k.val < mx) && (match decode cc (q.1 + 1) with
    | .ok (.iconst z, 1) => decide (Int32.ofInt z = q.2.2.2)
    | _ => false) && decide (decode cc (q.1 + 2) = .ok (.ireturn, 1))
  | .ok (.astore k, 2) => decide (k < mx) && (match decode cc (q.1 + 2) with
    | .ok (.iconst z, 1) => decide (Int32.ofInt z = q.2.2.2)
    | _ => false) && decide (decode cc (q.1 + 3) = .ok (.ireturn, 1))
  | _ => false
theorem wHk_of {cc : ByteArray} {mx : Nat} {q : Nat × Nat × Int32 × Int32} (h : wHkB cc mx q = true) : wHk cc mx q := by
  unfold wHkB at h
  split at h
  · rename_i k e
    simp only [Bool.and_eq_true, decide_eq_true_eq] at h
    obtain ⟨⟨h1, h2⟩, h3⟩ := h
    split at h2
    · rename_i z e2
      exact Or.inl ⟨k, z, e, h1, e2, of_decide_eq_true h2, h3⟩
    · cases h2
  · rename_i k e
    simp only [Bool.and_eq_true, decide_eq_true_eq] at h
    obtain ⟨⟨h1, h2⟩, h3⟩ := h
    split at h2
    · rename_i z e2
      exact Or.inr ⟨k, z, e, h1, e2, of_decide_eq_true h2, h3⟩
    · cases h2
  · cases h
def wPre : Nat → List (Nat × Instr × Nat)
  | 0 => [(0, .aload_n 1, 1), (1, .iconst 0, 1), (2, .aload_n 0, 1)]
  | 1 => [(0, .aload_n 2, 1), (1, .iconst 0, 1), (2, .aload_n 0, 1), (3, .iload_n 1, 1)]
  | 2 => [(0, .aload_n 3, 1), (1, .iconst 0, 1), (2, .aload_n 0, 1), (3, .iload_n 1, 1), (4, .iload_n 2, 1)]
  | _ => [(0, .aload 4, 2), (2, .iconst 0, 1), (3, .aload_n 0, 1), (4, .iload_n 1, 1), (5, .iload_n 2, 1), (6, .iload_n 3, 1)]
def wPI : Nat → Nat
  | 0 => 3
  | 1 => 4
  | 2 => 5
  | _ => 7
def wOk (na : Nat) (cc : ByteArray) (idx a pE : Nat) (hd : wHd) : Bool :=
  (wPre na).all (fun q => decide (decode cc q.1 = .ok q.2)) && decide (decode cc (wPI na) = .ok (.invokevirtual idx, 3)) && decide (decode cc (wPI na + 3) = .ok (.i2l, 1)) && decide (decode cc (wPI na + 4) = .ok (.lastore, 1)) && decide (decode cc (wPI na + 5) = .ok (.goto ((pE : Int) - ((wPI na + 5 : Nat) : Int)), 3)) && decide (decode cc pE = .ok (.iconst 0, 1)) && decide (decode cc (pE + 1) = .ok (.ireturn, 1)) &&
  hd.all (wHkB cc (na + 3)) && decide ((hd.map fun q => q.2.2.1).Nodup) && hd.all (fun q => yCt.contains (q.2.1, q.2.2.1)) && zMls.contains (13, idx, a) && decide (zOo a ≠ 13) && ySb (zOo a) false && decide (zRc a = 10) && decide (zRb a ≠ 0) && decide (zNa a = na)
def wRm : Room := { frames := 80, cells := 1, slots := 6, locals := 5000 }
def wHh (na : Nat) (hd : wHd) : List (Nat × Nat × Nat × Nat) := hd.map fun q => (0, wPI na + 5, q.1, q.2.1)
def wW (y : MethodName) (cc : ByteArray) (na : Nat) (hd : wHd) : List Jvm.Cond := .codeWith y cc (na + 3) (some .int) (wHh na hd) :: yTS
abbrev wAs (as : List Value) : List Value := .ref 0 :: as ++ [.ref 142]
/-- the contract of a wrapper -/
def wMet (l : Launch) (E : zE) (y : MethodName) (cc : ByteArray) (na : Nat) (hd : wHd) (as : List Value) (u : zM) (V : Option Value → zM → Prop) : Prop := vx_Met l y (wW y cc na hd) wRm (va_Pc ((wAs as).map (zCv (zAd E))) (yBi 143 false E u)) (yQ 143 E V) (fun _ _ _ => False) 1 6 (zA E)
set_option maxHeartbeats 1000000 in
theorem wMet0 (l : Launch) (hlt : l.stackTraces = false) (E : zE) {y : MethodName} {cc : ByteArray} {idx a pE : Nat} {hd : wHd} (hpl : plainName y.cls = true) (hcl : y.cls = RL) (hk : wOk 0 cc idx a pE hd = true) {u : zM} {N T : Option Value → zM → Prop} (h : zCall 60 false a (.ref 0 :: []) u N ∨ zCall 60 true a (.ref 0 :: []) u T) (hT : ∀ v w, T v w → ∃ q ∈ hd, v = some (.int q.2.2.1)) : wMet l E y cc 0 hd [] u (wV hd N T) := by
  simp only [wOk, Bool.and_eq_true, decide_eq_true_eq, List.all_eq_true] at hk
  obtain ⟨⟨⟨⟨⟨⟨⟨⟨⟨⟨⟨⟨⟨⟨⟨hp, d0⟩, d3⟩, d4⟩, d5⟩, d6⟩, d7⟩, dh⟩, hnd⟩, hct⟩, hin⟩, hn⟩, hsd⟩, hrc⟩, hrb⟩, hna⟩ := hk
  have hp : ∀ q ∈ wPre 0, decode cc q.1 = .ok q.2 := hp
  refine vx_ofWH (cc := cc) (maxL := 3) (ret := some .int) (hh := wHh 0 hd) hpl rfl ?_
  intro p e s m args below meth c s₁ B hml hv
  obtain ⟨rfl, hB, hbase, hst⟩ := hv
  have hx := B.exec
  have hb := B.bytes
  have hts0 := atoms_spec (ws := wW y cc 0 hd) B.pre
  have hts : ∀ w ∈ yTS, w.before ((wAs []).map (zCv (zAd E))).toArray s = true := fun w hw => hts0 w (List.mem_cons_of_mem _ hw)
  have htab := vx_table (x := y) B (hts0 _ List.mem_cons_self)
  have hown : s.vm.findClass RL = some m.cls := by
    rw [← hcl]
    exact findClass_of_methodNamed B.named
  have hl := lv_entry ((wAs []).map (zCv (zAd E))) (n := 3) (by rw [zSl_len _ (by rfl)]; simp)
  rw [lg_entry_eq]
  generalize (lg_sl ((wAs []).map (zCv (zAd E))) ++ List.replicate (3 - (lg_sl ((wAs []).map (zCv (zAd E)))).length) Slot.unset).toArray = ls at hl ⊢
  have g0 : ls[0]? = some (.val (.ref (zAd E 0))) := hl.2.2 (0, .ref (zAd E 0)) (by simp [lv_args, Value.category, zCv])
  have g1 : ls[1]? = some (.val (.ref (zAd E 142))) := hl.2.2 (1, .ref (zAd E 142)) (by simp [lv_args, Value.category, zCv])
  refine lv_aload_n (i := 1) hx hb (hp (0, .aload_n 1, 1) (by simp [wPre])) rfl g1 ?_
  refine lv_iconst (v := 0) hx hb (hp (1, .iconst 0, 1) (by simp [wPre])) rfl ?_
  refine lv_aload_n (i := 0) hx hb (hp (2, .aload_n 0, 1) (by simp [wPre])) rfl g0 ?_
  exact wTail (pE := pE) (as := []) hlt hx hb hml hown hts hB.1 hbase hst B.notSynchronized B.returns (by show 69 ≤ 80; decide) (by show 4504 ≤ 5000; decide) (Nat.le_refl 1) (Nat.le_refl 6) (List.contains_iff_mem.mp hin) hn hsd hrc hna.symm hrb h (by rw [htab]; simp [tableOf, wHh, wPI, wEn, List.map_map, Function.comp_def]) hT hnd (fun q hq => List.contains_iff_mem.mp (hct q hq)) d0 d3 d4 d5 (by show ((wPI 0 + 5 : Nat) : Int) + ((pE : Int) - ((wPI 0 + 5 : Nat) : Int)) = pE; omega) d6 d7 (fun q hq => wHk_of (dh q hq)) hl hB.2
set_option maxHeartbeats 1000000 in
theorem wMet1 (l : Launch) (hlt : l.stackTraces = false) (E : zE) {y : MethodName} {cc : ByteArray} {idx a pE : Nat} {hd : wHd} (hpl : plainName y.cls = true) (hcl : y.cls = RL) (hk : wOk 1 cc idx a pE hd = true) {a1 : Int32} {u : zM} {N T : Option Value → zM → Prop} (h : zCall 60 false a (.ref 0 :: [.int a1]) u N ∨ zCall 60 true a (.ref 0 :: [.int a1]) u T) (hT : ∀ v w, T v w → ∃ q ∈ hd, v = some (.int q.2.2.1)) : wMet l E y cc 1 hd [.int a1] u (wV hd N T) := by
  simp only [wOk, Bool.and_eq_true, decide_eq_true_eq, List.all_eq_true] at hk
  obtain ⟨⟨⟨⟨⟨⟨⟨⟨⟨⟨⟨⟨⟨⟨⟨hp, d0⟩, d3⟩, d4⟩, d5⟩, d6⟩, d7⟩, dh⟩, hnd⟩, hct⟩, hin⟩, hn⟩, hsd⟩, hrc⟩, hrb⟩, hna⟩ := hk
  have hp : ∀ q ∈ wPre 1, decode cc q.1 = .ok q.2 := hp
  refine vx_ofWH (cc := cc) (maxL := 4) (ret := some .int) (hh := wHh 1 hd) hpl rfl ?_
  intro p e s m args below meth c s₁ B hml hv
  obtain ⟨rfl, hB, hbase, hst⟩ := hv
  have hx := B.exec
  have hb := B.bytes
  have hts0 := atoms_spec (ws := wW y cc 1 hd) B.pre
  have hts : ∀ w ∈ yTS, w.before ((wAs [.int a1]).map (zCv (zAd E))).toArray s = true := fun w hw => hts0 w (List.mem_cons_of_mem _ hw)
  have htab := vx_table (x := y) B (hts0 _ List.mem_cons_self)
  have hown : s.vm.findClass RL = some m.cls := by
    rw [← hcl]
    exact findClass_of_methodNamed B.named
  have hl := lv_entry ((wAs [.int a1]).map (zCv (zAd E))) (n := 4) (by rw [zSl_len _ (by rfl)]; simp)
  rw [lg_entry_eq]
  generalize (lg_sl ((wAs [.int a1]).map (zCv (zAd E))) ++ List.replicate (4 - (lg_sl ((wAs [.int a1]).map (zCv (zAd E)))).length) Slot.unset).toArray = ls at hl ⊢
  have g0 : ls[0]? = some (.val (.ref (zAd E 0))) := hl.2.2 (0, .ref (zAd E 0)) (by simp [lv_args, Value.category, zCv])
  have g1 : ls[1]? = some (.val (.int a1)) := hl.2.2 (1, .int a1) (by simp [lv_args, Value.category, zCv])
  have g2 : ls[2]? = some (.val (.ref (zAd E 142))) := hl.2.2 (2, .ref (zAd E 142)) (by simp [lv_args, Value.category, zCv])
  refine lv_aload_n (i := 2) hx hb (hp (0, .aload_n 2, 1) (by simp [wPre])) rfl g2 ?_
  refine lv_iconst (v := 0) hx hb (hp (1, .iconst 0, 1) (by simp [wPre])) rfl ?_
  refine lv_aload_n (i := 0) hx hb (hp (2, .aload_n 0, 1) (by simp [wPre])) rfl g0 ?_
  refine lv_iload_n (i := 1) hx hb (hp (3, .iload_n 1, 1) (by simp [wPre])) rfl g1 ?_
  exact wTail (pE := pE) (as := [.int a1]) hlt hx hb hml hown hts hB.1 hbase hst B.notSynchronized B.returns (by show 69 ≤ 80; decide) (by show 4504 ≤ 5000; decide) (Nat.le_refl 1) (Nat.le_refl 6) (List.contains_iff_mem.mp hin) hn hsd hrc hna.symm hrb h (by rw [htab]; simp [tableOf, wHh, wPI, wEn, List.map_map, Function.comp_def]) hT hnd (fun q hq => List.contains_iff_mem.mp (hct q hq)) d0 d3 d4 d5 (by show ((wPI 1 + 5 : Nat) : Int) + ((pE : Int) - ((wPI 1 + 5 : Nat) : Int)) = pE; omega) d6 d7 (fun q hq => wHk_of (dh q hq)) hl hB.2
set_option maxHeartbeats 1000000 in
theorem wMet2 (l : Launch) (hlt : l.stackTraces = false) (E : zE) {y : MethodName} {cc : ByteArray} {idx a pE : Nat} {hd : wHd} (hpl : plainName y.cls = true) (hcl : y.cls = RL) (hk : wOk 2 cc idx a pE hd = true) {a1 a2 : Int32} {u : zM} {N T : Option Value → zM → Prop} (h : zCall 60 false a (.ref 0 :: [.int a1, .int a2]) u N ∨ zCall 60 true a (.ref 0 :: [.int a1, .int a2]) u T) (hT : ∀ v w, T v w → ∃ q ∈ hd, v = some (.int q.2.2.1)) : wMet l E y cc 2 hd [.int a1, .int a2] u (wV hd N T) := by
  simp only [wOk, Bool.and_eq_true, decide_eq_true_eq, List.all_eq_true] at hk
  obtain ⟨⟨⟨⟨⟨⟨⟨⟨⟨⟨⟨⟨⟨⟨⟨hp, d0⟩, d3⟩, d4⟩, d5⟩, d6⟩, d7⟩, dh⟩, hnd⟩, hct⟩, hin⟩, hn⟩, hsd⟩, hrc⟩, hrb⟩, hna⟩ := hk
  have hp : ∀ q ∈ wPre 2, decode cc q.1 = .ok q.2 := hp
  refine vx_ofWH (cc := cc) (maxL := 5) (ret := some .int) (hh := wHh 2 hd) hpl rfl ?_
  intro p e s m args below meth c s₁ B hml hv
  obtain ⟨rfl, hB, hbase, hst⟩ := hv
  have hx := B.exec
  have hb := B.bytes
  have hts0 := atoms_spec (ws := wW y cc 2 hd) B.pre
  have hts : ∀ w ∈ yTS, w.before ((wAs [.int a1, .int a2]).map (zCv (zAd E))).toArray s = true := fun w hw => hts0 w (List.mem_cons_of_mem _ hw)
  have htab := vx_table (x := y) B (hts0 _ List.mem_cons_self)
  have hown : s.vm.findClass RL = some m.cls := by
    rw [← hcl]
    exact findClass_of_methodNamed B.named
  have hl := lv_entry ((wAs [.int a1, .int a2]).map (zCv (zAd E))) (n := 5) (by rw [zSl_len _ (by rfl)]; simp)
  rw [lg_entry_eq]
  generalize (lg_sl ((wAs [.int a1, .int a2]).map (zCv (zAd E))) ++ List.replicate (5 - (lg_sl ((wAs [.int a1, .int a2]).map (zCv (zAd E)))).length) Slot.unset).toArray = ls at hl ⊢
  have g0 : ls[0]? = some (.val (.ref (zAd E 0))) := hl.2.2 (0, .ref (zAd E 0)) (by simp [lv_args, Value.category, zCv])
  have g1 : ls[1]? = some (.val (.int a1)) := hl.2.2 (1, .int a1) (by simp [lv_args, Value.category, zCv])
  have g2 : ls[2]? = some (.val (.int a2)) := hl.2.2 (2, .int a2) (by simp [lv_args, Value.category, zCv])
  have g3 : ls[3]? = some (.val (.ref (zAd E 142))) := hl.2.2 (3, .ref (zAd E 142)) (by simp [lv_args, Value.category, zCv])
  refine lv_aload_n (i := 3) hx hb (hp (0, .aload_n 3, 1) (by simp [wPre])) rfl g3 ?_
  refine lv_iconst (v := 0) hx hb (hp (1, .iconst 0, 1) (by simp [wPre])) rfl ?_
  refine lv_aload_n (i := 0) hx hb (hp (2, .aload_n 0, 1) (by simp [wPre])) rfl g0 ?_
  refine lv_iload_n (i := 1) hx hb (hp (3, .iload_n 1, 1) (by simp [wPre])) rfl g1 ?_
  refine lv_iload_n (i := 2) hx hb (hp (4, .iload_n 2, 1) (by simp [wPre])) rfl g2 ?_
  exact wTail (pE := pE) (as := [.int a1, .int a2]) hlt hx hb hml hown hts hB.1 hbase hst B.notSynchronized B.returns (by show 69 ≤ 80; decide) (by show 4504 ≤ 5000; decide) (Nat.le_refl 1) (Nat.le_refl 6) (List.contains_iff_mem.mp hin) hn hsd hrc hna.symm hrb h (by rw [htab]; simp [tableOf, wHh, wPI, wEn, List.map_map, Function.comp_def]) hT hnd (fun q hq => List.contains_iff_mem.mp (hct q hq)) d0 d3 d4 d5 (by show ((wPI 2 + 5 : Nat) : Int) + ((pE : Int) - ((wPI 2 + 5 : Nat) : Int)) = pE; omega) d6 d7 (fun q hq => wHk_of (dh q hq)) hl hB.2
set_option maxHeartbeats 1000000 in
theorem wMet3 (l : Launch) (hlt : l.stackTraces = false) (E : zE) {y : MethodName} {cc : ByteArray} {idx a pE : Nat} {hd : wHd} (hpl : plainName y.cls = true) (hcl : y.cls = RL) (hk : wOk 3 cc idx a pE hd = true) {a1 a2 a3 : Int32} {u : zM} {N T : Option Value → zM → Prop} (h : zCall 60 false a (.ref 0 :: [.int a1, .int a2, .int a3]) u N ∨ zCall 60 true a (.ref 0 :: [.int a1, .int a2, .int a3]) u T) (hT : ∀ v w, T v w → ∃ q ∈ hd, v = some (.int q.2.2.1)) : wMet l E y cc 3 hd [.int a1, .int a2, .int a3] u (wV hd N T) := by
  simp only [wOk, Bool.and_eq_true, decide_eq_true_eq, List.all_eq_true] at hk
  obtain ⟨⟨⟨⟨⟨⟨⟨⟨⟨⟨⟨⟨⟨⟨⟨hp, d0⟩, d3⟩, d4⟩, d5⟩, d6⟩, d7⟩, dh⟩, hnd⟩, hct⟩, hin⟩, hn⟩, hsd⟩, hrc⟩, hrb⟩, hna⟩ := hk
  have hp : ∀ q ∈ wPre 3, decode cc q.1 = .ok q.2 := hp
  refine vx_ofWH (cc := cc) (maxL := 6) (ret := some .int) (hh := wHh 3 hd) hpl rfl ?_
  intro p e s m args below meth c s₁ B hml hv
  obtain ⟨rfl, hB, hbase, hst⟩ := hv
  have hx := B.exec
  have hb := B.bytes
  have hts0 := atoms_spec (ws := wW y cc 3 hd) B.pre
  have hts : ∀ w ∈ yTS, w.before ((wAs [.int a1, .int a2, .int a3]).map (zCv (zAd E))).toArray s = true := fun w hw => hts0 w (List.mem_cons_of_mem _ hw)
  have htab := vx_table (x := y) B (hts0 _ List.mem_cons_self)
  have hown : s.vm.findClass RL = some m.cls := by
    rw [← hcl]
    exact findClass_of_methodNamed B.named
  have hl := lv_entry ((wAs [.int a1, .int a2, .int a3]).map (zCv (zAd E))) (n := 6) (by rw [zSl_len _ (by rfl)]; simp)
  rw [lg_entry_eq]
  generalize (lg_sl ((wAs [.int a1, .int a2, .int a3]).map (zCv (zAd E))) ++ List.replicate (6 - (lg_sl ((wAs [.int a1, .int a2, .int a3]).map (zCv (zAd E)))).length) Slot.unset).toArray = ls at hl ⊢
  have g0 : ls[0]? = some (.val (.ref (zAd E 0))) := hl.2.2 (0, .ref (zAd E 0)) (by simp [lv_args, Value.category, zCv])
  have g1 : ls[1]? = some (.val (.int a1)) := hl.2.2 (1, .int a1) (by simp [lv_args, Value.category, zCv])
  have g2 : ls[2]? = some (.val (.int a2)) := hl.2.2 (2, .int a2) (by simp [lv_args, Value.category, zCv])
  have g3 : ls[3]? = some (.val (.int a3)) := hl.2.2 (3, .int a3) (by simp [lv_args, Value.category, zCv])
  have g4 : ls[4]? = some (.val (.ref (zAd E 142))) := hl.2.2 (4, .ref (zAd E 142)) (by simp [lv_args, Value.category, zCv])
  refine lv_aload hx hb (hp (0, .aload 4, 2) (by simp [wPre])) g4 ?_
  refine lv_iconst (v := 0) hx hb (hp (2, .iconst 0, 1) (by simp [wPre])) rfl ?_
  refine lv_aload_n (i := 0) hx hb (hp (3, .aload_n 0, 1) (by simp [wPre])) rfl g0 ?_
  refine lv_iload_n (i := 1) hx hb (hp (4, .iload_n 1, 1) (by simp [wPre])) rfl g1 ?_
  refine lv_iload_n (i := 2) hx hb (hp (5, .iload_n 2, 1) (by simp [wPre])) rfl g2 ?_
  refine lv_iload_n (i := 3) hx hb (hp (6, .iload_n 3, 1) (by simp [wPre])) rfl g3 ?_
  exact wTail (pE := pE) (as := [.int a1, .int a2, .int a3]) hlt hx hb hml hown hts hB.1 hbase hst B.notSynchronized B.returns (by show 69 ≤ 80; decide) (by show 4504 ≤ 5000; decide) (Nat.le_refl 1) (Nat.le_refl 6) (List.contains_iff_mem.mp hin) hn hsd hrc hna.symm hrb h (by rw [htab]; simp [tableOf, wHh, wPI, wEn, List.map_map, Function.comp_def]) hT hnd (fun q hq => List.contains_iff_mem.mp (hct q hq)) d0 d3 d4 d5 (by show ((wPI 3 + 5 : Nat) : Int) + ((pE : Int) - ((wPI 3 + 5 : Nat) : Int)) = pE; omega) d6 d7 (fun q hq => wHk_of (dh q hq)) hl hB.2
