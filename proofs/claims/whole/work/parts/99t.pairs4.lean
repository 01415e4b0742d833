theorem bit_keep0 : ∀ set, set < 256 → ∀ s, s < 8 → set.testBit s = true → ∀ t, t < 8 → (decide (t = s) || ((set - 2 ^ s).testBit t == set.testBit t)) = true := by decide +kernel
theorem bit_keep (set : Nat) (h : set < 256) (s : Nat) (hs : s < 8) (hb : set.testBit s = true) (t : Nat) (ht : t < 8) (ne : t ≠ s) : (set - 2 ^ s).testBit t = set.testBit t := by
  have := bit_keep0 set h s hs hb t ht
  rw [decide_eq_false ne, Bool.false_or] at this
  exact eq_of_beq this
def pqV (W : Nat → Int32) (n set o : Nat) : Bool := ppV W set o && decide (prV 1000 W n (set - 2 ^ loN set - 2 ^ o) + 1000 - zFar W (cnN W (loN set)) (cnN W o) = prV 1000 W n set)
def ffN (p : Nat → Bool) : Nat → Nat → Nat
  | 0, i => i
  | r + 1, i => if p i = true then i else ffN p r (i + 1)
theorem ffN_le {p : Nat → Bool} : ∀ r i, ffN p r i ≤ i + r
  | 0, _ => Nat.le_refl _
  | r + 1, i => by
    unfold ffN
    have := ffN_le (p := p) r (i + 1)
    split <;> omega
theorem ffN_p {p : Nat → Bool} : ∀ r i, ffN p r i < i + r → p (ffN p r i) = true
  | 0, i, h => absurd h (Nat.lt_irrefl _)
  | r + 1, i, h => by
    unfold ffN at h ⊢
    by_cases q : p i = true
    · rw [if_pos q]; exact q
    · rw [if_neg q] at h ⊢
      exact ffN_p r (i + 1) (by omega)
theorem ffN_no {p : Nat → Bool} : ∀ r i, ffN p r i = i + r → ∀ s, i ≤ s → s < i + r → ¬ p s = true
  | 0, _, _, s, h1, h2 => absurd h2 (by omega)
  | r + 1, i, h, s, h1, h2 => by
    unfold ffN at h
    by_cases q : p i = true
    · rw [if_pos q] at h; omega
    · rw [if_neg q] at h
      by_cases z : s = i
      · rw [z]; exact q
      · exact ffN_no r (i + 1) (by omega) s (by omega) (by omega)
theorem ffN_skip {p : Nat → Bool} : ∀ k r i, (∀ s, i ≤ s → s < i + k → ¬ p s = true) → ffN p (k + r) i = ffN p r (i + k)
  | 0, r, i, _ => by rw [Nat.zero_add]; rfl
  | k + 1, r, i, h => by
    have e : k + 1 + r = (k + r) + 1 := by omega
    rw [e, ffN, if_neg (h i (Nat.le_refl _) (by omega)), ffN_skip k r (i + 1) (fun s h1 h2 => h s (by omega) (by omega))]
    have e2 : i + 1 + k = i + (k + 1) := by omega
    rw [e2]
theorem pMx_at {p : Nat → Bool} {f : Nat → Nat} {x0 : Nat} : ∀ n, pMx p f x0 n = x0 ∨ ∃ s, s < n ∧ p s = true ∧ f s = pMx p f x0 n
  | 0 => Or.inl rfl
  | n + 1 => by
    unfold pMx
    by_cases q : p n = true
    · rw [if_pos q]
      by_cases z : pMx p f x0 n ≤ f n
      · exact Or.inr ⟨n, by omega, q, by omega⟩
      · rcases pMx_at (p := p) (f := f) (x0 := x0) n with h | ⟨s, a, b, c⟩
        · exact Or.inl (by omega)
        · exact Or.inr ⟨s, by omega, b, by omega⟩
    · rw [if_neg q]
      rcases pMx_at (p := p) (f := f) (x0 := x0) n with h | ⟨s, a, b, c⟩
      · exact Or.inl h
      · exact Or.inr ⟨s, by omega, b, c⟩
theorem pRel_eq {x y D R D2 R2 : Nat} (hx : x ≤ 8) (hy : y ≤ 8) (h : pRel x D R) (h2 : pRel y D2 R2) : D = D2 ↔ R = R2 := by
  obtain ⟨P, f, a1, a2, a3, a4⟩ := h
  obtain ⟨P2, f2, b1, b2, b3, b4⟩ := h2
  omega
/-- a pair taken, on both sides -/
theorem pq_ref {W : Nat → Int32} {n set o : Nat} (hR : zRg W n) (h2 : set < 2 ^ n) (h0 : 0 < set) (hp : ppV W set o = true) : pqV W n set o = decide (prV 10000 W n (set - 2 ^ loN set - 2 ^ o) + 10000 - zFar W (cnN W (loN set)) (cnN W o) = prV 10000 W n set) := by
  have h8 := hR.1.1
  have p2 := p2_le h8
  obtain ⟨l8, lb, ll⟩ := lo_ok set (by omega) h0
  have lt := bit_lt lb
  have pb := pp_bit hp
  have lt2 := bit_lt pb
  have o8 : o < n := bit_lt_n (n := n) (by omega) pb
  have r1 := pc8_rm set (by omega) _ l8 lb
  have r2 := pc8_rm (set - 2 ^ loN set) (by omega) o (by omega) pb
  have le := pc8_le set
  have pf := of_decide_eq_true (Bool.and_eq_true_iff.mp hp).2
  have f99 := zFar_99 hR (cnN W (loN set)) (cnN W o) (cnN_lt W _) (cnN_lt W _)
  have A := pr_rel hR (set + 1) set (by omega) h2
  obtain ⟨P, f, a1, a2, a3, a4⟩ := pr_rel hR (set - 2 ^ loN set - 2 ^ o + 1) (set - 2 ^ loN set - 2 ^ o) (by omega) (by omega)
  have B : pRel (pc8 set) (prV 1000 W n (set - 2 ^ loN set - 2 ^ o) + 1000 - zFar W (cnN W (loN set)) (cnN W o)) (prV 10000 W n (set - 2 ^ loN set - 2 ^ o) + 10000 - zFar W (cnN W (loN set)) (cnN W o)) := ⟨P + 1, f + zFar W (cnN W (loN set)) (cnN W o), by omega, by omega, by omega, by omega⟩
  unfold pqV
  rw [hp, Bool.true_and]
  exact decide_eq_decide.mpr (pRel_eq le le B A)
def ptn (W : Nat → Int32) (n set : Nat) : Nat := ffN (pqV W n set) n 0
theorem ptn_le {W : Nat → Int32} {n set : Nat} : ptn W n set ≤ n := by have := ffN_le (p := pqV W n set) n 0; unfold ptn; omega
theorem ptn_pp {W : Nat → Int32} {n set : Nat} (h : ptn W n set ≠ n) : ppV W set (ptn W n set) = true := by
  have le := ptn_le (W := W) (n := n) (set := set)
  have := ffN_p (p := pqV W n set) n 0 (by unfold ptn at h le; omega)
  exact (Bool.and_eq_true_iff.mp this).1
theorem s_firstPartner {d n set : Nat} {W : Nat → Int32} {u : zM} {Q : Option Value → zM → Prop} (hU : zTu u W n) (T : ∀ s, s < 2 ^ n → u 124 s = nI (prV 1000 W n s)) (h2 : set < 2 ^ n) (h0 : 0 < set)
    (h : Q (some (.int (if ptn W n set = n then -1 else nI (ptn W n set)))) u) : zCall (d + 4) false 48 [.ref 123, .ref 3, .int (nI set), .int (nI (loN set))] u Q := by
  have hR := hU.1
  have hu := hU.2.1
  have h8 := hR.1.1
  have p2 := p2_le h8
  have h256 : set < 256 := by omega
  obtain ⟨l8, lb, ll⟩ := lo_ok set h256 h0
  have ln := bit_lt_n h2 lb
  have lt := bit_lt lb
  have lr := lo_rm set h256 h0
  have sk : ptn W n set = ffN (pqV W n set) (n - (loN set + 1)) (loN set + 1) := by
    have := ffN_skip (p := pqV W n set) (loN set + 1) (n - (loN set + 1)) 0 (fun s _ hs z => by
      have := pp_bit (Bool.and_eq_true_iff.mp z).1
      rw [lr s (by omega)] at this
      exact absurd this (by decide))
    rw [Nat.add_sub_cancel' (by omega : loN set + 1 ≤ n), Nat.zero_add] at this
    exact this
  rw [sk] at h
  refine t2X4_firstPartner (k0 := 123) (k1 := 3) rfl rfl ?_
  rw [nI_1]
  have go : ∀ r i, i + r = n → loN set < i → Q (some (.int (if ffN (pqV W n set) r i = n then -1 else nI (ffN (pqV W n set) r i)))) u → zRun (d + 3) false zcX4_firstPartner 1 Q 5 [(0, .ref 123), (1, .ref 3), (2, .int (nI set)), (3, .int (nI (loN set))), (4, .int (nI i))] [] u := by
    intro r
    induction r with
    | zero =>
      intro i hi hl hq
      have e : ffN (pqV W n set) 0 i = i := rfl
      rw [e, if_pos (by omega)] at hq
      exact t2X4_firstPartner_5 (k0 := 123) (k1 := 3) rfl rfl (br_t (by rw [show (3 + 1 : Nat) = 4 from rfl, hu, nI_leI (by omega) (by omega)]; omega) hq)
    | succ r ih =>
      intro i hi hl hq
      have e : ffN (pqV W n set) (r + 1) i = if pqV W n set i = true then i else ffN (pqV W n set) r (i + 1) := rfl
      rw [e] at hq
      have no : ¬ pqV W n set i = true → zRun (d + 3) false zcX4_firstPartner 1 Q 5 [(0, .ref 123), (1, .ref 3), (2, .int (nI set)), (3, .int (nI (loN set))), (4, .int (nI (i + 1)))] [] u := fun z => by
        rw [if_neg z] at hq
        exact ih (i + 1) (by omega) (by omega) hq
      have pe : pqV W n set i = (((set - 2 ^ loN set).testBit i && decide (zFar W (cnN W (loN set)) (cnN W i) < 1000)) && decide (prV 1000 W n (set - 2 ^ loN set - 2 ^ i) + 1000 - zFar W (cnN W (loN set)) (cnN W i) = prV 1000 W n set)) := rfl
      have bk := bit_keep set h256 _ l8 lb i (by omega) (by omega)
      refine t2X4_firstPartner_5 (k0 := 123) (k1 := 3) rfl rfl (br_f (by rw [show (3 + 1 : Nat) = 4 from rfl, hu, nI_leI (by omega) (by omega)]; omega) ?_)
      rw [bit_at set h256 i (by omega), nI_1 i]
      cases b : set.testBit i
      · exact ⟨fun _ => no (by rw [pe, bk, b]; simp), fun z => absurd rfl z⟩
      · rw [b] at bk
        rw [bk, Bool.true_and] at pe
        have lt2 := bit_lt bk
        have dl := (pr_le hR (set := set - 2 ^ loN set - 2 ^ i) (by omega)).1
        have dl2 := (pr_le hR h2).1
        refine ⟨fun z => absurd z (by decide), fun _ => ?_⟩
        refine s_withPair (W := W) (D := prV 1000 W n (set - 2 ^ loN set - 2 ^ i)) hU h256 l8 (by omega) lb bk dl (T _ (by omega)) ⟨_, rfl, vp_in_nI h256 (by decide), ?_⟩
        rw [show (123 + 1 : Nat) = 124 from rfl, nI_clamp (n := set) (by omega), T set h2]
        by_cases z : zFar W (cnN W (loN set)) (cnN W i) < 1000
        · rw [if_pos z]
          rw [decide_eq_true z, Bool.true_and] at pe
          refine ⟨fun q => no (fun y => q ?_), fun q => ?_⟩
          · rw [pe] at y
            rw [of_decide_eq_true y]
          · rw [nI_eq (by omega) (by omega)] at q
            have y : pqV W n set i = true := by rw [pe]; exact decide_eq_true q
            rw [if_pos y, if_neg (by omega)] at hq
            exact hq
        · rw [if_neg z]
          refine ⟨fun q => no (fun y => ?_), fun q => absurd q.symm (nI_nm1 (by omega))⟩
          rw [pe, decide_eq_false z] at y
          exact absurd y (by simp)
  exact go (n - (loN set + 1)) (loN set + 1) (by omega) (by omega) h
