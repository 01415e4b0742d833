theorem i_cap {c k : Nat} (m : Nat) (hc : c < 100000) (hk : k < 100000) (hm : m < 100000) : (if nI c + nI k < nI m then nI c + nI k else nI m) = nI (min (c + k) m) := by
  rw [nI_add]
  by_cases q : c + k < m
  · rw [if_pos ((nI_ltI (by omega) (by omega)).mpr q), Nat.min_eq_left (by omega)]
  · rw [if_neg (fun z => q ((nI_ltI (by omega) (by omega)).mp z)), Nat.min_eq_right (by omega)]
def zStp (W V : Nat → Int32) : Prop := zFx W V ∧ zVs V ∧ V 3 = W 3
theorem zStp.tr {W V U : Nat → Int32} (h1 : zStp W V) (h2 : zStp V U) : zStp W U := ⟨h1.1.tr h2.1, h2.2.1, h2.2.2.trans h1.2.2⟩
theorem zStp.rg {W V : Nat → Int32} {n : Nat} (h : zStp W V) (hR : zRg W n) : zRg V n := hR.fx h.1 h.2.1 (by rw [h.2.2]; exact hR.2.2.2.1)
theorem zStp.rf {W : Nat → Int32} (hv : zVs W) : zStp W W := ⟨zFx.rf W, hv, rfl⟩
theorem zStp.up {W V : Nat → Int32} {s c : Nat} {v : Int32} (h : zStp W V) (w : Nat) (hs : s < 8) (h2 : 2 ≤ w) (h6 : w ≤ 6) (hc : c ≤ zVb w) (e : v = nI c) : zStp W (upd V (163 + 9 * s + w) v) := ⟨h.1.tr (zFx.val s w v hs h2 h6), h.2.1.up1 h2 h6 hc e, (upd_ne _ _ (by omega)).trans h.2.2⟩
theorem zStp.sd {W V : Nat → Int32} {v : Int32} (h : zStp W V) : zStp W (upd V 10 v) := ⟨h.1.tr (zFx.num 10 v (by omega)), h.2.1.num (by omega), (upd_ne _ _ (by omega)).trans h.2.2⟩
theorem i_cap9 {c : Nat} (hc : c ≤ 9) : (if nI c + 1 < 9 then nI c + 1 else 9) = nI (min (c + 1) 9) := i_cap (c := c) (k := 1) 9 (by omega) (by omega) (by omega)
theorem i_cap99 {c : Nat} (hc : c ≤ 99) : (if nI c + 1 < 99 then nI c + 1 else 99) = nI (min (c + 1) 99) := i_cap (c := c) (k := 1) 99 (by omega) (by omega) (by omega)
theorem i_cap990 {c : Nat} (hc : c ≤ 99) : (if nI c + 0 < 99 then nI c + 0 else 99) = nI c := by
  have h := i_cap (c := c) (k := 0) 99 (by omega) (by omega) (by omega)
  rw [show min (c + 0) 99 = c by omega] at h
  exact h
theorem pGet1_ok {W : Nat → Int32} {s : Nat} (hs : s < 8) (hv : zVs W) (hp : ∃ p, p ≤ 20 ∧ W 6 = nI p) : zStp W (pGet1 W s) := by
  obtain ⟨p, hp, e6⟩ := hp
  obtain ⟨c, hc, ec⟩ := hv s 2 hs (by omega) (by omega)
  obtain ⟨f, hf, ef⟩ := hv s 3 hs (by omega) (by omega)
  obtain ⟨o, ho, eo⟩ := hv s 4 hs (by omega) (by omega)
  have hc' : c ≤ 9999 := hc
  have hf' : f ≤ 9 := hf
  have ho' : o ≤ 9 := ho
  unfold pGet1
  rw [ec, ef, eo, e6]
  split
  · exact (zStp.rf hv).up 4 hs (by omega) (by omega) (c := min (o + 1) 9) (show min (o + 1) 9 ≤ 9 by omega) (i_cap9 ho')
  · rename_i q
    rw [nI_ltI (by omega) (by omega)] at q
    exact ((zStp.rf hv).up 2 hs (by omega) (by omega) (c := c - p) (show c - p ≤ 9999 by omega) (nI_sub (by omega))).up 3 hs (by omega) (by omega) (c := min (f + 1) 9) (show min (f + 1) 9 ≤ 9 by omega) (i_cap9 hf')
theorem pGets_ok {W : Nat → Int32} {s : Nat} (hs : s < 8) (hv : zVs W) (hp : ∃ p, p ≤ 20 ∧ W 6 = nI p) : ∀ b, zStp W (pGets W s b)
  | 0 => zStp.rf hv
  | b + 1 => by
    have ih := pGets_ok hs hv hp b
    exact ih.tr (pGet1_ok hs ih.2.1 (by rw [ih.1.1 6 (by decide) (by decide) (by decide) (by decide)]; exact hp))
theorem pRecv_ok {W : Nat → Int32} {s b : Nat} (hs : s < 8) (hv : zVs W) (hp : ∃ p, p ≤ 20 ∧ W 6 = nI p) : zStp W (pRecv W s b) := (pGets_ok hs hv hp b).up 5 hs (by omega) (by omega) (c := 0) (Nat.zero_le _) rfl
theorem pDrink_ok {W : Nat → Int32} {s : Nat} (hs : s < 8) (hv : zVs W) : zStp W (pDrink W s) := by
  obtain ⟨f, hf, ef⟩ := hv s 3 hs (by omega) (by omega)
  obtain ⟨o, ho, eo⟩ := hv s 4 hs (by omega) (by omega)
  obtain ⟨e, he, ee⟩ := hv s 5 hs (by omega) (by omega)
  obtain ⟨d, hd, ed⟩ := hv s 6 hs (by omega) (by omega)
  have hf' : f ≤ 9 := hf
  have ho' : o ≤ 9 := ho
  have he' : e ≤ 99 := he
  have hd' : d ≤ 99 := hd
  unfold pDrink
  rw [ef, eo, ee, ed]
  split
  · split
    · exact ((zStp.rf hv).up 5 hs (by omega) (by omega) (c := e) he (i_cap990 he')).up 6 hs (by omega) (by omega) (c := min (d + 1) 99) (show min (d + 1) 99 ≤ 99 by omega) (i_cap99 hd')
    · rename_i q
      rw [nI_lit, nI_leI (by omega) (by omega)] at q
      exact (((zStp.rf hv).up 3 hs (by omega) (by omega) (c := f - 1) (show f - 1 ≤ 9 by omega) (nI_sub (b := 1) (by omega))).up 5 hs (by omega) (by omega) (c := min (e + 1) 99) (show min (e + 1) 99 ≤ 99 by omega) (i_cap99 he')).up 6 hs (by omega) (by omega) (c := 0) (Nat.zero_le _) rfl
  · rename_i q
    rw [nI_lit, nI_leI (by omega) (by omega)] at q
    exact (((zStp.rf hv).up 4 hs (by omega) (by omega) (c := o - 1) (show o - 1 ≤ 9 by omega) (nI_sub (b := 1) (by omega))).up 5 hs (by omega) (by omega) (c := min (e + 1) 99) (show min (e + 1) 99 ≤ 99 by omega) (i_cap99 he')).up 6 hs (by omega) (by omega) (c := 0) (Nat.zero_le _) rfl
theorem lwSum_nat {W : Nat → Int32} {kd s b : Nat} {x : Int32} (hx : x = nI b) (hb : b ≤ 100) : ∀ l, (∀ j, j < l → lwA W j ≤ 100) → ∃ r, r ≤ 100 + 100 * l ∧ lwSum W kd s x l = nI r
  | 0, _ => ⟨b, by omega, hx⟩
  | l + 1, h => by
    obtain ⟨r, h1, h2⟩ := lwSum_nat (W := W) (kd := kd) (s := s) hx hb l (fun j hj => h j (by omega))
    have h3 := h l (by omega)
    unfold lwSum
    split
    · exact ⟨r + lwA W l, by omega, by rw [h2, nI_add]⟩
    · exact ⟨r, by omega, h2⟩
theorem lwBy_nat {W : Nat → Int32} {n kd s : Nat} (hR : zRg W n) (hw : lwWf W) : ∃ r, r ≤ 1300 ∧ lwBy W kd s = nI r := by
  have hb : ∃ b, b ≤ 100 ∧ lwBase W kd = nI b := by
    unfold lwBase
    split
    · obtain ⟨t, h1, h2⟩ := hR.2.2.2.2.2.2.2.1
      exact ⟨t, h1, h2⟩
    · split
      · obtain ⟨t, h1, h2⟩ := hR.2.2.2.2.2.2.2.2.1
        exact ⟨t, h1, h2⟩
      · exact ⟨0, by omega, rfl⟩
  obtain ⟨b, hb, eb⟩ := hb
  unfold lwBy
  split
  · rename_i q
    obtain ⟨L, S, o1, o2, o3, o4, o5⟩ := hw q
    obtain ⟨r, h1, h2⟩ := lwSum_nat (W := W) (kd := kd) (s := s) eb hb L (fun j hj => (o5 j hj).2.1.2)
    exact ⟨r, by omega, by rw [o3, nI_clamp (by omega)]; exact h2⟩
  · exact ⟨b, by omega, eb⟩
theorem pTurn0_nat {W : Nat → Int32} {s o x : Nat} (eo : W (163 + 9 * s + 4) = nI o) (ho : o ≤ 9) (hx : x ≤ 1300) : pTurn0 W s (nI x) = nI (o - x) := by
  unfold pTurn0
  rw [eo]
  by_cases q : x < o
  · rw [nI_sub (by omega), if_pos (by rw [nI_lit, nI_ltI (by omega) (by omega)]; omega)]
  · have ng : ¬ 0 < nI o - nI x := by
      intro z
      have h0 : (nI o - nI x).toInt = (o : Int) - x := pk_sub_toInt (by omega) (by omega)
      rw [Int32.lt_iff_toInt_lt, h0] at z
      have : (0 : Int32).toInt = 0 := by decide
      omega
    rw [if_neg ng, show o - x = 0 by omega]; rfl
theorem pTurn_ok {W : Nat → Int32} {s x : Nat} (hs : s < 8) (hv : zVs W) (hx : x ≤ 1300) : zStp W (pTurn W s (nI x)) := by
  obtain ⟨f, hf, ef⟩ := hv s 3 hs (by omega) (by omega)
  obtain ⟨o, ho, eo⟩ := hv s 4 hs (by omega) (by omega)
  have hf' : f ≤ 9 := hf
  have ho' : o ≤ 9 := ho
  unfold pTurn
  rw [pTurn0_nat eo ho' hx, ef]
  exact (((zStp.rf hv).up 4 hs (by omega) (by omega) (c := o - x) (show o - x ≤ 9 by omega) rfl).up 4 hs (by omega) (by omega) (c := min (o - x + f) 9) (show min (o - x + f) 9 ≤ 9 by omega) (i_cap (c := o - x) (k := f) 9 (by omega) (by omega) (by omega))).up 3 hs (by omega) (by omega) (c := 0) (Nat.zero_le _) rfl
theorem pSour_ok {W : Nat → Int32} {n s : Nat} (hs : s < 8) (hR : zRg W n) (hw : lwWf W) : zStp W (pSour W s) := by
  obtain ⟨r, h1, h2⟩ := lwBy_nat (kd := 2) (s := s) hR hw
  unfold pSour
  rw [h2]
  exact pTurn_ok hs hR.vs h1
theorem pSeed_ok {W : Nat → Int32} (hv : zVs W) : zStp W (pSeed W) := (zStp.rf hv).sd
theorem pBreak_ok {W : Nat → Int32} {s : Nat} (hs : s < 8) (hv : zVs W) : zStp W (pBreak W s) := by
  obtain ⟨f, hf, ef⟩ := hv s 3 hs (by omega) (by omega)
  have hf' : f ≤ 9 := hf
  unfold pBreak
  rw [ef]
  split
  · exact zStp.rf hv
  · rename_i q
    rw [nI_lit, nI_leI (by omega) (by omega)] at q
    split
    · exact pSeed_ok hv
    · exact (pSeed_ok hv).up 3 hs (by omega) (by omega) (c := f - 1) (show f - 1 ≤ 9 by omega) (nI_sub (b := 1) (by omega))
theorem pPeck_ok {W : Nat → Int32} {s : Nat} (hs : s < 8) (hv : zVs W) (h0 : ¬ W (163 + 9 * s + 3) = 0) : zStp W (pPeck W s) := by
  obtain ⟨f, hf, ef⟩ := hv s 3 hs (by omega) (by omega)
  obtain ⟨o, ho, eo⟩ := hv s 4 hs (by omega) (by omega)
  have hf' : f ≤ 9 := hf
  have ho' : o ≤ 9 := ho
  rw [ef] at h0
  have h1 : f ≠ 0 := fun q => h0 (by rw [q]; rfl)
  unfold pPeck
  rw [ef, eo]
  split
  · exact pSeed_ok hv
  · exact ((pSeed_ok hv).up 3 hs (by omega) (by omega) (c := f - 1) (show f - 1 ≤ 9 by omega) (nI_sub (b := 1) (by omega))).up 4 hs (by omega) (by omega) (c := min (o + 1) 9) (show min (o + 1) 9 ≤ 9 by omega) (i_cap9 ho')
theorem pBird_ok {W : Nat → Int32} {s : Nat} (hs : s < 8) (hv : zVs W) : zStp W (pBird W s) := by
  unfold pBird
  split
  · exact zStp.rf hv
  · rename_i q
    have h := pPeck_ok hs hv q
    exact h.tr (pBreak_ok hs h.2.1)
theorem pAll_ok {g : (Nat → Int32) → Nat → Nat → Int32} {W : Nat → Int32} {n : Nat} (hR : zRg W n) (hw : lwWf W) (h : ∀ V s, s < n → zRg V n → lwWf V → zStp V (g V s)) : ∀ i, i ≤ n → zStp W (pAll g W i)
  | 0, _ => zStp.rf hR.vs
  | i + 1, hi => by
    have ih := pAll_ok hR hw h i (by omega)
    exact ih.tr (h _ i (by omega) (ih.rg hR) (ih.1.wf hw))
