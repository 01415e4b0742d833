/-! the law's loop -/
theorem lawAnd (y : Int32) : 0 ≤ (y &&& 63).toInt ∧ (y &&& 63).toInt ≤ 63 := by
  have h1 : (y &&& 63).toBitVec.toNat ≤ 63 := by
    rw [Int32.toBitVec_and, BitVec.toNat_and]
    exact Nat.and_le_right
  have h2 : (y &&& 63).toInt = ((y &&& 63).toBitVec.toNat : Int) := BitVec.toInt_eq_toNat_of_lt (by omega)
  rw [h2]
  omega
theorem lawSix {i L0 : Nat} (hi : i ≤ 3078) (hL : L0 ≤ 3072) (h : ¬ Int32.ofNat L0 - 6 < nI i) : i + 6 ≤ L0 := by
  rw [Int32.lt_iff_toInt_lt] at h
  have e1 : (nI i).toInt = (i : Int) := Int32.toInt_ofNat_of_lt (by omega)
  have e2 : (Int32.ofNat L0 - 6).toInt = (L0 : Int) - 6 := by
    by_cases h6 : 6 ≤ L0
    · have : Int32.ofNat L0 - 6 = nI (L0 - 6) := nI_sub (b := 6) h6
      rw [this]
      have e3 : (nI (L0 - 6)).toInt = ((L0 - 6 : Nat) : Int) := Int32.toInt_ofNat_of_lt (by omega)
      rw [e3]
      omega
    · have : L0 = 0 ∨ L0 = 1 ∨ L0 = 2 ∨ L0 = 3 ∨ L0 = 4 ∨ L0 = 5 := by omega
      rcases this with rfl | rfl | rfl | rfl | rfl | rfl <;> decide
  rw [e1, e2] at h
  omega
theorem lawSw : decode cLL 40 = .ok (.tableswitch 2707 0 55 lawOf, 240) := by decide +kernel
section LO
variable {p : Program} {l : Launch} {e : Env} {R : Room} {s : State} {m : MethodId} {args : Array Value} {below : List Frame} {meth : Method} {c : Code} {Z : State → Prop} {E : zE} {b L0 : Nat} {xs : Nat → Int32}
theorem lawLoop (hlt : l.stackTraces = false) (hF : lawF p s m args c R E cLL) (hX : lawS s E b L0 xs) (hEnd : ∀ (H1 : Heap) (locs1 : List Loc) (L1 : Array Slot), va_S (zA E) s.heap H1 locs1 → W p l e R s m args below meth c H1 locs1 R.cells R.slots Z (F0 m 2754 L1 [.int 1])) : ∀ (n i cells slots : Nat) (u : zM) (H : Heap) (locs : List Loc) (L : Array Slot), L0 ≤ i + 6 * n → i ≤ 3078 → cells + n + 1 ≤ R.cells → slots + 6 * n + 6 ≤ R.slots → zIv u → yH 143 E u H → va_S (zA E) s.heap H locs → lv_has L 7 (lawB E b i) → W p l e R s m args below meth c H locs cells slots Z (F0 m 23 L []) := by
  have hF0 := hF
  obtain ⟨hx, hb, -⟩ := hF0
  obtain ⟨hX1, hX2, hX3, hX4⟩ := hX
  intro n
  induction n with
  | zero =>
    intro i cells slots u H locs L hn hi hc hs hu hH hS hL
    refine lv_iload hx hb (show decode cLL 23 = .ok (.iload 4, 2) by decide +kernel) (hL.2.2 (4, .int (nI i)) (by simp [lawB])) ?_
    refine lv_aload_n (i := 0) hx hb (show decode cLL 25 = .ok (.aload_n 0, 1) by decide +kernel) rfl (hL.2.2 (0, .ref b) (by simp [lawB])) ?_
    refine va_slen hx hb hX1 hX2 hX3 hS (show decode cLL 26 = .ok (.arraylength, 1) by decide +kernel) ?_
    refine lv_bipush (v := 6) hx hb (show decode cLL 27 = .ok (.bipush 6, 2) by decide +kernel) rfl ?_
    refine lv_isub hx hb (show decode cLL 29 = .ok (.isub, 1) by decide +kernel) ?_
    refine lv_icmp_gt (tgt := 2753) hx hb (show decode cLL 30 = .ok (.if_icmp .gt 2723, 3) by decide +kernel) (by decide) (fun _ => ?_) (fun h => absurd (lawSix hi hX4 h) (by omega))
    refine lv_iconst (v := 1) hx hb (show decode cLL 2753 = .ok (.iconst 1, 1) by decide +kernel) rfl ?_
    exact W.widen (by omega) (by omega) (hEnd H locs L hS)
  | succ n ih =>
    intro i cells slots u H locs L hn hi hc hs hu hH hS hL
    have g0 : L[0]? = some (.val (.ref b)) := hL.2.2 (0, .ref b) (by simp [lawB])
    have g4 : L[4]? = some (.val (.int (nI i))) := hL.2.2 (4, .int (nI i)) (by simp [lawB])
    refine lv_iload hx hb (show decode cLL 23 = .ok (.iload 4, 2) by decide +kernel) g4 ?_
    refine lv_aload_n (i := 0) hx hb (show decode cLL 25 = .ok (.aload_n 0, 1) by decide +kernel) rfl g0 ?_
    refine va_slen hx hb hX1 hX2 hX3 hS (show decode cLL 26 = .ok (.arraylength, 1) by decide +kernel) ?_
    refine lv_bipush (v := 6) hx hb (show decode cLL 27 = .ok (.bipush 6, 2) by decide +kernel) rfl ?_
    refine lv_isub hx hb (show decode cLL 29 = .ok (.isub, 1) by decide +kernel) ?_
    refine lv_icmp_gt (tgt := 2753) hx hb (show decode cLL 30 = .ok (.if_icmp .gt 2723, 3) by decide +kernel) (by decide) (fun _ => ?_) (fun h => ?_)
    · refine lv_iconst (v := 1) hx hb (show decode cLL 2753 = .ok (.iconst 1, 1) by decide +kernel) rfl ?_
      exact W.widen (by omega) (by omega) (hEnd H locs L hS)
    · have h6 := lawSix hi hX4 h
      have hN : lawNx p l e R s m args below meth c cells slots Z E b i := by
        intro u1 H1 locs1 L1 hu1 hH1 hS1 hL1
        refine lv_iinc (k := 4) (lv' := (4, .int (nI (i + 6))) :: (lawB E b i).filter (fun q => !(q.1 == 4) && !(q.1 + 1 == 4 && q.2.category == 2))) hx hb (show decode cLL 2747 = .ok (.iinc 4 6, 3) by decide +kernel) hL1 rfl rfl (by decide) (by rw [show Int32.ofInt 6 = nI 6 from rfl, nI_add]) (fun L2 hL2 => ?_)
        refine lv_goto (tgt := 23) hx hb (show decode cLL 2750 = .ok (.goto (-2727), 3) by decide +kernel) (by decide) ?_
        refine ih (i + 6) (cells + 1) (slots + 6) u1 H1 locs1 L2 (by omega) (by omega) (by omega) (by omega) hu1 hH1 hS1 ⟨hL2.1, hL2.2.1, fun q hq => hL2.2.2 q ?_⟩
        revert hq
        simp only [lawB, List.mem_cons, List.not_mem_nil, or_false]
        rintro (rfl | rfl | rfl | rfl | rfl) <;> simp [Value.category]
      refine lv_aload_n (i := 0) hx hb (show decode cLL 33 = .ok (.aload_n 0, 1) by decide +kernel) rfl g0 ?_
      refine lv_iload hx hb (show decode cLL 34 = .ok (.iload 4, 2) by decide +kernel) g4 ?_
      have e1 : (nI i).toNatClampNeg = i := nI_clamp (by omega)
      have hv : vp_in (nI i) L0 := by
        have h2 : i < L0 := by omega
        have h3 : i < 2 ^ 31 := by omega
        simpa [vp_nI h3] using h2
      refine va_sld hx hb hX1 hX2 hX3 hS hv (show decode cLL 36 = .ok (.iaload, 1) by decide +kernel) ?_
      rw [e1]
      refine lv_bipush (v := 63) hx hb (show decode cLL 37 = .ok (.bipush 63, 2) by decide +kernel) rfl ?_
      refine lv_iand hx hb (show decode cLL 39 = .ok (.iand, 1) by decide +kernel) ?_
      obtain ⟨a1, a2⟩ := lawAnd (xs i)
      by_cases ho : 55 < (xs i &&& 63).toInt
      · refine lv_tableOut (tgt := 2747) hx hb lawSw (Or.inr ho) (by decide) ?_
        exact W.widen (Nat.le_succ _) (Nat.le_add_right _ 6) (hN u H locs L hu hH hS hL)
      · obtain ⟨tgt, q1, q2⟩ := lawAll hlt (G := ⟨hF, ⟨by omega, by omega⟩, ⟨hX1, hX2, hX3, hX4⟩, h6, hN, hu, hH, hS, hL⟩) ((xs i &&& 63).toInt - 0).toNat (by omega)
        exact lv_tableIn (tgt := tgt) hx hb lawSw (by omega) ho q1 (by omega) q2
end LO
