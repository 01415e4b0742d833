def nbV (W : Nat → Int32) (n t : Nat) : Nat → Nat → Int32
  | 0, _ => -1
  | k + 1, set => if loN set = t then (if ptn W n set = n then -1 else nI (ptn W n set)) else if ptn W n set = t then nI (loN set) else if ptn W n set = n then nbV W n t k (set - 2 ^ loN set) else nbV W n t k (set - 2 ^ loN set - 2 ^ ptn W n set)
theorem pc8_pos {set t : Nat} (h : set < 256) (ht : t < 8) (hb : set.testBit t = true) : 0 < pc8 set := by have := pc8_rm set h t ht hb; omega
theorem s_partnerOf {d n t : Nat} {W : Nat → Int32} {u : zM} {Q : Option Value → zM → Prop} (hU : zTu u W n) (T : ∀ s, s < 2 ^ n → u 124 s = nI (prV 1000 W n s)) (ht : t < n) (h : Q (some (.int (nbV W n t 8 (2 ^ n - 1)))) u) (hf : (2 ^ n - 1).testBit t = true) : zCall (d + 5) false 47 [.ref 123, .ref 3, .int (nI t)] u Q := by
  have hR := hU.1
  have hu := hU.2.1
  have h8 := hR.1.1
  have p2 := p2_le h8
  have pp := Nat.two_pow_pos n
  refine t2X4_partnerOf (k0 := 123) (k1 := 3) rfl rfl ?_
  rw [show (3 + 1 : Nat) = 4 from rfl, hu, sl_m n h8]
  have go : ∀ k set j, j + k = 8 → pc8 set ≤ k → set < 2 ^ n → set.testBit t = true → Q (some (.int (nbV W n t k set))) u → zRun (d + 4) false zcX4_partnerOf 1 Q 15 [(0, .ref 123), (1, .ref 3), (2, .int (nI t)), (3, .int (nI set)), (4, .int (nI j))] [] u := by
    intro k
    induction k with
    | zero =>
      intro set j hj hp h2 hb hq
      have := pc8_pos (by omega) (by omega) hb
      omega
    | succ k ih =>
      intro set j hj hp h2 hb hq
      have h256 : set < 256 := by omega
      have bl := bit_lt hb
      have s0 : 0 < set := by omega
      obtain ⟨l8, lb, ll⟩ := lo_ok set h256 s0
      have ln := bit_lt_n h2 lb
      have lt := bit_lt lb
      have r1 := pc8_rm set h256 _ l8 lb
      have pl := ptn_le (W := W) (n := n) (set := set)
      refine t2X4_partnerOf_15 (k0 := 123) (k1 := 3) rfl rfl (br_f (by rw [nI_lit, nI_leI (by omega) (by omega)]; omega) (br_f (nI_ne (a := set) (b := 0) (by omega) (by decide) (by omega)) ?_))
      refine s_low (set := set) rfl h256 s0 ⟨_, rfl, ?_⟩
      refine s_firstPartner (W := W) hU T h2 s0 ⟨_, rfl, ?_⟩
      have l : nbV W n t (k + 1) set = if loN set = t then (if ptn W n set = n then -1 else nI (ptn W n set)) else if ptn W n set = t then nI (loN set) else if ptn W n set = n then nbV W n t k (set - 2 ^ loN set) else nbV W n t k (set - 2 ^ loN set - 2 ^ ptn W n set) := rfl
      rw [l] at hq
      dsimp only
      rw [bit_rm set h256 _ l8 lb, nI_1 j]
      refine ⟨fun q => ?_, fun q => ?_⟩
      · have lt' : loN set ≠ t := fun z => q (by rw [z])
        rw [if_neg lt'] at hq
        have k1 := bit_keep set h256 _ l8 lb t (by omega) (Ne.symm lt')
        by_cases z : ptn W n set = n
        · have zt : ptn W n set ≠ t := by omega
          rw [if_neg zt, if_pos z] at hq
          rw [if_pos z]
          refine ⟨fun _ => ⟨fun y => absurd rfl y, fun _ => ih _ (j + 1) (by omega) (by omega) (by omega) (by rw [k1]; exact hb) hq⟩, fun y => absurd y.symm (nI_nm1 (by omega))⟩
        · rw [if_neg z]
          have bb := pp_bit (ptn_pp z)
          have lt2 := bit_lt bb
          have r2 := pc8_rm (set - 2 ^ loN set) (by omega) _ (by omega) bb
          rw [bit_rm (set - 2 ^ loN set) (by omega) _ (by omega) bb]
          refine ⟨fun y => ⟨fun _ => ?_, fun y2 => absurd y2 (nI_nm1 (by omega))⟩, fun y => ?_⟩
          · have nt : ptn W n set ≠ t := fun x => y (by rw [x])
            rw [if_neg nt, if_neg z] at hq
            have k2 := bit_keep (set - 2 ^ loN set) (by omega) _ (by omega) bb t (by omega) (Ne.symm nt)
            exact ih _ (j + 1) (by omega) (by omega) (by omega) (by rw [k2, k1]; exact hb) hq
          · rw [nI_eq (by omega) (by omega)] at y
            rw [if_pos y] at hq
            exact hq
      · rw [nI_eq (by omega) (by omega)] at q
        rw [if_pos q] at hq
        exact hq
  exact go 8 (2 ^ n - 1) 0 rfl (pc8_le _) (by omega) hf h
theorem r_partnerOf {d n t : Nat} {W : Nat → Int32} {u : zM} {Q : Option Value → zM → Prop} (hU : zRu u W n) (T : ∀ s, s < 2 ^ n → u 140 s = nI (prV 10000 W n s)) (ht : t < n) (h : Q (some (.int (nbV W n t 8 (2 ^ n - 1)))) u) (hf : (2 ^ n - 1).testBit t = true) : zCall (d + 5) false 304 [.ref 128, .int (nI t)] u Q := by
  have hR := hU.1
  have m0 : u 129 0 = nI n := by rw [hU.2.1]; exact hR.1.2
  have h8 := hR.1.1
  have p2 := p2_le h8
  have pp := Nat.two_pow_pos n
  refine tX12_partnerOf ?_
  rw [m0, sl_m n h8]
  have go : ∀ k set, pc8 set ≤ k → set < 2 ^ n → set.testBit t = true → Q (some (.int (nbV W n t k set))) u → zRun (d + 4) false zcX12_partnerOf 1 Q 5 [(0, .ref 128), (1, .int (nI t)), (2, .int (nI set))] [] u := by
    intro k
    induction k with
    | zero =>
      intro set hp h2 hb hq
      have := pc8_pos (by omega) (by omega) hb
      omega
    | succ k ih =>
      intro set hp h2 hb hq
      have h256 : set < 256 := by omega
      have bl := bit_lt hb
      have s0 : 0 < set := by omega
      obtain ⟨l8, lb, ll⟩ := lo_ok set h256 s0
      have ln := bit_lt_n h2 lb
      have lt := bit_lt lb
      have r1 := pc8_rm set h256 _ l8 lb
      have pl := ptn_le (W := W) (n := n) (set := set)
      have own := T set h2
      have R4 := (pr_le hR h2).2
      have l : nbV W n t (k + 1) set = if loN set = t then (if ptn W n set = n then -1 else nI (ptn W n set)) else if ptn W n set = t then nI (loN set) else if ptn W n set = n then nbV W n t k (set - 2 ^ loN set) else nbV W n t k (set - 2 ^ loN set - 2 ^ ptn W n set) := rfl
      rw [l] at hq
      refine tX12_partnerOf_5 ?_
      refine s_firstOf (set := set) rfl h256 s0 ⟨_, rfl, ?_⟩
      have se : ∀ r i, i + r = n → ffN (pqV W n set) r i = ptn W n set → (∀ s, s < i → ¬ pqV W n set s = true) → zRun (d + 4) false zcX12_partnerOf 1 Q 13 [(0, .ref 128), (1, .int (nI t)), (2, .int (nI set)), (3, .int (nI (loN set))), (4, .int (nI i))] [] u := by
        intro r
        induction r with
        | zero =>
          intro i hi he hn
          obtain rfl : i = n := by omega
          have z : ptn W i set = i := by rw [← he]; rfl
          have zt : ptn W i set ≠ t := by omega
          have alone : prV 10000 W i (set - 2 ^ loN set) = prV 10000 W i set := by
            have v := prV_s (A := 10000) (n := i) (W := W) s0 h256
            rcases pMx_at (p := ppV W set) (f := fun o => prV 10000 W i (set - 2 ^ loN set - 2 ^ o) + 10000 - zFar W (cnN W (loN set)) (cnN W o)) (x0 := prV 10000 W i (set - 2 ^ loN set)) i with e | ⟨s, s1, s2, s3⟩
            · rw [v, e]
            · rw [← v] at s3
              have := hn s s1
              rw [pq_ref hR h2 s0 s2] at this
              exact absurd (decide_eq_true s3) this
          rw [if_pos z] at hq
          refine tX12_partnerOf_13 ?_
          refine s_pairedBy hU (fun s hs => T s (by omega)) h2 s0 (Nat.le_refl _) ⟨_, rfl, vp_in_nI h256 (by decide), ?_⟩
          have pb : pbV W i set i = nI (prV 10000 W i set) := by unfold pbV; rw [if_pos rfl, alone]
          rw [nI_clamp (n := set) (by omega), own, pb, m0, bit_rm set h256 _ l8 lb]
          refine br_t rfl ⟨fun q => ⟨fun _ => ⟨fun y => absurd rfl y, fun _ => ?_⟩, fun y => ?_⟩, fun q => ⟨fun y => absurd rfl y, fun _ => ?_⟩⟩
          · have lt' : loN set ≠ t := fun x => q (by rw [x])
            rw [if_neg lt', if_neg zt, if_pos z] at hq
            have k1 := bit_keep set h256 _ l8 lb t (by omega) (Ne.symm lt')
            rw [Int32.and_neg_one]
            exact ih _ (by omega) (by omega) (by rw [k1]; exact hb) hq
          · rw [nI_eq (by omega) (by omega)] at y
            omega
          · rw [nI_eq (by omega) (by omega)] at q
            rw [if_pos q] at hq
            exact hq
        | succ r ih2 =>
          intro i hi he hn
          have e : ffN (pqV W n set) (r + 1) i = if pqV W n set i = true then i else ffN (pqV W n set) r (i + 1) := rfl
          rw [e] at he
          have iN : i ≠ n := by omega
          have pbe : pbV W n set i = if ppV W set i = true then nI (prV 10000 W n (set - 2 ^ loN set - 2 ^ i) + 10000 - zFar W (cnN W (loN set)) (cnN W i)) else -1 := by unfold pbV; rw [if_neg iN]
          refine tX12_partnerOf_13 ?_
          refine s_pairedBy hU (fun s hs => T s (by omega)) h2 s0 (by omega) ⟨_, rfl, vp_in_nI h256 (by decide), ?_⟩
          rw [nI_clamp (n := set) (by omega), own, m0, nI_1 i]
          have no : ¬ pqV W n set i = true → zRun (d + 4) false zcX12_partnerOf 1 Q 13 [(0, .ref 128), (1, .int (nI t)), (2, .int (nI set)), (3, .int (nI (loN set))), (4, .int (nI (i + 1)))] [] u := fun x => by
            rw [if_neg x] at he
            refine ih2 (i + 1) (by omega) he (fun s hs => ?_)
            by_cases y : s = i
            · rw [y]; exact x
            · exact hn s (by omega)
          refine ⟨fun q => ?_, fun q => no (fun x => q ?_)⟩
          · have pp1 : ppV W set i = true := by
              by_cases x : ppV W set i = true
              · exact x
              · rw [pbe, if_neg x] at q
                exact absurd q.symm (nI_nm1 (by omega))
            have bb := pp_bit pp1
            have lt2 := bit_lt bb
            have r2 := pc8_rm (set - 2 ^ loN set) (by omega) i (by omega) bb
            have R5 := (pr_le hR (set := set - 2 ^ loN set - 2 ^ i) (by omega)).2
            rw [pbe, if_pos pp1, nI_eq (by omega) (by omega)] at q
            have x : pqV W n set i = true := by rw [pq_ref hR h2 s0 pp1]; exact decide_eq_true q
            rw [if_pos x] at he
            rw [← he, if_neg iN, if_neg iN] at hq
            rw [bit_rm set h256 _ l8 lb, bit_rm (set - 2 ^ loN set) (by omega) i (by omega) bb]
            refine ⟨fun q1 => ⟨fun q2 => ⟨fun _ => ?_, fun y => absurd y (nI_ne (a := i) (b := n) (by omega) (by omega) iN)⟩, fun q2 => ?_⟩, fun q1 => ⟨fun _ => ?_, fun y => absurd y (nI_ne (a := i) (b := n) (by omega) (by omega) iN)⟩⟩
            · have lt' : loN set ≠ t := fun x => q1 (by rw [x])
              have it : i ≠ t := fun x => q2 (by rw [x])
              rw [if_neg lt', if_neg it] at hq
              have k1 := bit_keep set h256 _ l8 lb t (by omega) (Ne.symm lt')
              have k2 := bit_keep (set - 2 ^ loN set) (by omega) i (by omega) bb t (by omega) (Ne.symm it)
              exact ih _ (by omega) (by omega) (by rw [k2, k1]; exact hb) hq
            · have lt' : loN set ≠ t := fun x => q1 (by rw [x])
              rw [nI_eq (by omega) (by omega)] at q2
              rw [if_neg lt', if_pos q2] at hq
              exact hq
            · rw [nI_eq (by omega) (by omega)] at q1
              rw [if_pos q1] at hq
              exact hq
          · have pp1 : ppV W set i = true := (Bool.and_eq_true_iff.mp x).1
            rw [pq_ref hR h2 s0 pp1] at x
            rw [pbe, if_pos pp1, of_decide_eq_true x]
      exact se n 0 (by omega) rfl (fun s hs => absurd hs (Nat.not_lt_zero _))
  exact go 8 (2 ^ n - 1) (pc8_le _) (by omega) hf h
