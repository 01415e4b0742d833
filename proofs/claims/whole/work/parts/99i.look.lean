theorem s_countGiven {d : Nat} {g : Int32} {u : zM} {Q : Option Value → zM → Prop} (h : ∀ w, (∀ c, c ≠ 126 → w c = u c) → (∀ s, s < 8 → w 126 s = u 126 s + ((g >>> (nI s &&& 31)) &&& 1)) → Q none w) : zCall (d + 1) false 105 [.ref 125, .int g] u Q := by
  refine tX10_countGiven (k0 := 125) rfl ?_
  refine zFor (σ := zM) (Pr := fun i w => zRun d false zcX10_countGiven 0 Q 2 [(0, .ref 125), (1, .int g), (2, .int (nI i))] [] w) (fun i w => (∀ c, c ≠ 126 → w c = u c) ∧ ∀ s, w 126 s = if s < i then u 126 s + ((g >>> (nI s &&& 31)) &&& 1) else u 126 s) 8 (fun w hw => ?_) (fun i w hi hw ih => ?_) u ⟨fun _ _ => rfl, fun s => (if_neg (Nat.not_lt_zero _)).symm⟩
  · exact tX10_countGiven_2 (k0 := 125) rfl (br_t (by decide) (h w hw.1 (fun s hs => by rw [hw.2 s, if_pos hs])))
  · have v : vp_in (nI i) 8 := vp_in_nI (by omega) (by decide)
    refine tX10_countGiven_2 (k0 := 125) rfl (br_f (by rw [nI_lit, nI_leI (by omega) (by omega)]; omega) ⟨v, v, ?_⟩)
    rw [show (125 + 1 : Nat) = 126 from rfl, nI_clamp (n := i) (by omega), nI_1 i]
    refine ih _ ⟨fun c a => (zUp_k _ _ a).trans (hw.1 c a), fun s => ?_⟩
    by_cases q : s = i
    · rw [q, zUp_at, hw.2 i, if_neg (Nat.lt_irrefl i), if_pos (Nat.lt_succ_self i)]
    · rw [zUp_j _ _ q, hw.2 s]
      by_cases z : s < i
      · rw [if_pos z, if_pos (by omega)]
      · rw [if_neg z, if_neg (by omega)]
def fitV (W : Nat → Int32) (K n : Nat) (Y N : Int32) (c : Nat) : Bool := decide (gvV W K n c &&& Y = Y ∧ gvV W K n c &&& N = 0)
def loV (F : Nat → Bool) : Nat → Int32
  | 0 => -1
  | i + 1 => if F i = true then (if zct F i = 0 then nI i else loV F i) else loV F i
theorem s_look {d n K : Nat} {Y N : Int32} {u : zM} {Q : Option Value → zM → Prop} (hR : zRg (u 129) n) (hD : zDyV u 4 (u 129)) (hS : zSt u 9 (u 129)) (hK : K ≤ 99) (hK5 : u 129 5 = nI K) (hy : u 125 1 = Y) (hn : u 125 2 = N)
    (h : ∀ w, (∀ c, (c < 19 ∨ 21 < c) → c ≠ 125 → c ≠ 126 → w c = u c) → w 125 3 = nI (zct (fitV (u 129) K n Y N) 201) → w 125 4 = loV (fitV (u 129) K n Y N) 201 → (∀ s, s < 8 → w 126 s = nI (zct (fun c => fitV (u 129) K n Y N c && tb (gvV (u 129) K n c) s) 201)) → Q none w) : zCall (d + 4) false 104 [.ref 125, .ref 3] u Q := by
  obtain ⟨W, eW⟩ : ∃ W, W = u 129 := ⟨_, rfl⟩
  rw [← eW] at hR hD hS hK5 h
  obtain ⟨F, eF⟩ : ∃ F, F = fitV W K n Y N := ⟨_, rfl⟩
  rw [← eF] at h
  refine tX10_look (k0 := 125) (k1 := 3) rfl rfl ?_
  refine s_fill (k0 := 126) (n0 := 8) rfl (by decide) (fun w0 g1 g2 => ⟨rfl, fun m e => ?_⟩)
  rw [e]
  refine zFor (σ := zM) (Pr := fun i w => zRun (d + 3) false zcX10_look 0 Q 20 [(0, .ref 125), (1, .ref 3), (2, .int (nI i))] [] w) (fun i w => (∀ c, (c < 19 ∨ 21 < c) → c ≠ 125 → c ≠ 126 → w c = u c) ∧ w 125 1 = Y ∧ w 125 2 = N ∧ w 125 3 = nI (zct F i) ∧ w 125 4 = loV F i ∧ ∀ s, s < 8 → w 126 s = nI (zct (fun c => F c && tb (gvV W K n c) s) i)) 201 (fun w hw => ?_) (fun i w hi hw ih => ?_) (zUp (zUp w0 125 3 0) 125 4 (-1)) ⟨fun c a b x => by rw [zUp_k _ _ b, zUp_k _ _ b]; exact g1 c x, by rw [zUp_j _ _ (by decide), zUp_j _ _ (by decide), g1 125 (by decide)]; exact hy, by rw [zUp_j _ _ (by decide), zUp_j _ _ (by decide), g1 125 (by decide)]; exact hn, by rw [zUp_j _ _ (by decide), zUp_at]; rfl, by rw [zUp_at]; rfl, fun s hs => by rw [zUp_k _ _ (by decide), zUp_k _ _ (by decide), g2 s hs]; rfl⟩
  · exact tX10_look_20 (k0 := 125) (k1 := 3) rfl rfl (br_t (by decide) (h w hw.1 hw.2.2.2.1 hw.2.2.2.2.1 hw.2.2.2.2.2))
  · obtain ⟨f, y, nn, c3, c4, c6⟩ := hw
    refine tX10_look_20 (k0 := 125) (k1 := 3) rfl rfl (br_f (by rw [nI_lit, nI_ltI (by omega) (by omega)]; omega) ?_)
    refine s_driveV (k0 := 19) (k1 := 4) (k2 := 9) (K := K) (p0 := i) (W := W) rfl rfl rfl rfl (by decide) hR (hD.congr (fun c a b => f c (by omega) (by omega) (by omega))) (hS.congr (f 10 (by decide) (by decide) (by decide)) (f 11 (by decide) (by decide) (by decide))) rfl (by omega) hK hK5 (fun w1 g1 x1 _ _ => ⟨rfl, ?_⟩)
    have eq : zRdG W K i n = zRdF W K i n := zRide_min (zFar_99 hR) (fun s => cnN_lt _ s) (by omega) n
    have gv : w1 19 3 = gvV W K n i := by rw [x1.2.1, eq]; rfl
    have g25 : w1 125 = w 125 := g1 125 (by decide) (by decide) (by decide)
    have g26 : w1 126 = w 126 := g1 126 (by decide) (by decide) (by decide)
    have y1 : w1 125 1 = Y := by rw [g25]; exact y
    have n1 : w1 125 2 = N := by rw [g25]; exact nn
    have c31 : w1 125 3 = nI (zct F i) := by rw [g25]; exact c3
    have c41 : w1 125 4 = loV F i := by rw [g25]; exact c4
    have fr1 : ∀ c, (c < 19 ∨ 21 < c) → c ≠ 125 → c ≠ 126 → w1 c = u c := fun c a b x => by rw [g1 c (by omega) (by omega) (by omega)]; exact f c a b x
    rw [show (3 + 16 : Nat) = 19 from rfl]
    dsimp only
    rw [gv, y1, n1, c31, c41, nI_1 i]
    have zl := zct_le F i
    have skip : ¬ F i = true → zRun (d + 3) false zcX10_look 0 Q 20 [(0, .ref 125), (1, .ref 3), (2, .int (nI (i + 1)))] [] w1 := fun q => ih w1 ⟨fr1, y1, n1, by rw [c31, zct_f q], by rw [c41]; exact (if_neg q).symm, fun s hs => by
      rw [g26, c6 s hs]
      congr 1
      exact (zct_f (p := fun c => F c && tb (gvV W K n c) s) (fun z => q (Bool.and_eq_true_iff.mp z).1)).symm⟩
    have fin : ∀ v : Int32, v = loV F (i + 1) → F i = true → ∀ m3 : zM, m3 = zUp w1 125 4 v → ∀ m4 : zM, m4 = zUp m3 125 3 (m3 125 3 + 1) → zCV (d + 3) 105 [.ref 125, .int (gvV W K n i)] m4 fun w5 => zRun (d + 3) false zcX10_look 0 Q 20 [(0, .ref 125), (1, .ref 3), (2, .int (nI (i + 1)))] [] w5 := by
      intro v hv q m3 e3 m4 e4
      refine s_countGiven (fun w5 k1 k2 => ⟨rfl, ?_⟩)
      have m33 : m3 125 3 = nI (zct F i) := by rw [e3, zUp_j _ _ (by decide)]; exact c31
      refine ih w5 ⟨fun c a b x => by rw [k1 c x, e4, zUp_k _ _ b, e3, zUp_k _ _ b]; exact fr1 c a b x, ?_, ?_, ?_, ?_, fun s hs => ?_⟩
      · rw [k1 125 (by decide), e4, zUp_j _ _ (by decide), e3, zUp_j _ _ (by decide)]; exact y1
      · rw [k1 125 (by decide), e4, zUp_j _ _ (by decide), e3, zUp_j _ _ (by decide)]; exact n1
      · rw [k1 125 (by decide), e4, zUp_at, m33, nI_1, zct_t q]
      · rw [k1 125 (by decide), e4, zUp_j _ _ (by decide), e3, zUp_at]; exact hv
      · rw [k2 s hs, e4, zUp_k _ _ (by decide), e3, zUp_k _ _ (by decide), g26, c6 s hs, tb_shr _ (by omega)]
        cases z : tb (gvV W K n i) s
        · rw [if_neg (by decide), Int32.add_zero, zct_f (p := fun c => F c && tb (gvV W K n c) s) (i := i) (by rw [z, Bool.and_false]; decide)]
        · rw [if_pos rfl, nI_1, zct_t (p := fun c => F c && tb (gvV W K n c) s) (i := i) (by rw [z, q]; rfl)]
    have dF : F i = decide (gvV W K n i &&& Y = Y ∧ gvV W K n i &&& N = 0) := by rw [eF]; rfl
    refine ⟨fun q => skip (fun z => ?_), fun q => ⟨fun q2 => skip (fun z => ?_), fun q2 => ?_⟩⟩
    · rw [dF] at z; exact q (of_decide_eq_true z).1
    · rw [dF] at z; exact q2 (of_decide_eq_true z).2
    · have Fi : F i = true := by rw [dF]; exact decide_eq_true ⟨q, q2⟩
      have e0 : nI (zct F i) = 0 ↔ zct F i = 0 := nI_eq (a := zct F i) (b := 0) (by omega) (by decide)
      refine ⟨fun q3 => fin _ ?_ Fi, fun q3 => fin _ ?_ Fi⟩
      · rw [e0] at q3
        show _ = if F i = true then (if zct F i = 0 then nI i else loV F i) else loV F i
        rw [if_pos Fi, if_neg q3]
      · rw [e0] at q3
        show _ = if F i = true then (if zct F i = 0 then nI i else loV F i) else loV F i
        rw [if_pos Fi, if_pos q3]
/-! the first of the fitting charges, and how many, from above -/
def tkV (F : Nat → Bool) : Nat → Nat
  | 0 => 0
  | k + 1 => tkV F k + (if F (200 - k) then 1 else 0)
def lfV (F : Nat → Bool) : Nat → Int32
  | 0 => -1
  | k + 1 => if F (200 - k) = true then nI (200 - k) else lfV F k
theorem lo0 {F : Nat → Bool} : ∀ i, zct F i = 0 → loV F i = -1
  | 0, _ => rfl
  | i + 1, h => by
    have q : ¬ F i = true := fun z => by rw [zct_t z] at h; omega
    rw [zct_f q] at h
    show (if F i = true then (if zct F i = 0 then nI i else loV F i) else loV F i) = -1
    rw [if_neg q]
    exact lo0 i h
theorem tk_eq {F : Nat → Bool} : ∀ k, k ≤ 201 → zct F (201 - k) + tkV F k = zct F 201
  | 0, _ => Nat.add_zero (zct F 201)
  | k + 1, h => by
    have ih := tk_eq (F := F) k (by omega)
    have e : 201 - k = (200 - k) + 1 := by omega
    have e2 : 201 - (k + 1) = 200 - k := by omega
    rw [e] at ih
    have z : zct F (200 - k + 1) = zct F (200 - k) + (if F (200 - k) then 1 else 0) := rfl
    rw [e2, ← ih, z]
    show zct F (200 - k) + (tkV F k + (if F (200 - k) then 1 else 0)) = _
    omega
theorem lf_eq {F : Nat → Bool} : ∀ k, k ≤ 201 → loV F 201 = if zct F (201 - k) = 0 then lfV F k else loV F (201 - k)
  | 0, _ => by
    show loV F 201 = if zct F 201 = 0 then -1 else loV F 201
    by_cases q : zct F 201 = 0
    · rw [if_pos q]; exact lo0 _ q
    · rw [if_neg q]
  | k + 1, h => by
    have ih := lf_eq (F := F) k (by omega)
    have e : 201 - k = (200 - k) + 1 := by omega
    have e2 : 201 - (k + 1) = 200 - k := by omega
    rw [e] at ih
    rw [e2, ih]
    have l1 : loV F (200 - k + 1) = if F (200 - k) = true then (if zct F (200 - k) = 0 then nI (200 - k) else loV F (200 - k)) else loV F (200 - k) := rfl
    have l2 : lfV F (k + 1) = if F (200 - k) = true then nI (200 - k) else lfV F k := rfl
    rw [l1, l2]
    by_cases q : F (200 - k) = true
    · rw [zct_t q, if_pos q, if_pos q, if_neg (by omega)]
    · rw [zct_f q, if_neg q, if_neg q]
theorem tk_all {F : Nat → Bool} : tkV F 201 = zct F 201 := by have := tk_eq (F := F) 201 (by decide); have z : zct F (201 - 201) = 0 := rfl; omega
theorem lf_all {F : Nat → Bool} : lfV F 201 = loV F 201 := by
  have z : zct F (201 - 201) = 0 := rfl
  rw [lf_eq (F := F) 201 (by decide), if_pos z]
theorem tk_le {F : Nat → Bool} : ∀ k, tkV F k ≤ k
  | 0 => Nat.le_refl _
  | k + 1 => by
    have := tk_le (F := F) k
    show tkV F k + (if F (200 - k) then 1 else 0) ≤ k + 1
    split <;> omega
