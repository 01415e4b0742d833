/-! the class's things of a text: words, numbers; alive (at a thing's begin) or dead (a fault) -/
theorem runB_stop {P : Nat → Bool} {B : Nat → Nat} : ∀ r i, runB P B r i = i + r ∨ P (B (runB P B r i)) = false
  | 0, i => Or.inl rfl
  | r + 1, i => by
    have l : runB P B (r + 1) i = if P (B i) = true then runB P B r (i + 1) else i := rfl
    cases q : P (B i)
    · rw [l, q, if_neg (by decide)]; exact Or.inr q
    · rw [l, q, if_pos rfl]
      rcases runB_stop (P := P) (B := B) r (i + 1) with z | z
      · exact Or.inl (by omega)
      · exact Or.inr z
theorem runB_all {P : Nat → Bool} {B : Nat → Nat} : ∀ r i j, i ≤ j → j < runB P B r i → P (B j) = true
  | 0, i, j, h, g => by
    have e : runB P B 0 i = i := rfl
    omega
  | r + 1, i, j, h, g => by
    have l : runB P B (r + 1) i = if P (B i) = true then runB P B r (i + 1) else i := rfl
    cases q : P (B i)
    · rw [l, q, if_neg (by decide)] at g; omega
    · rw [l, q, if_pos rfl] at g
      by_cases z : j = i
      · rw [z]; exact q
      · exact runB_all r (i + 1) j (by omega) g
theorem runB_cong {P R : Nat → Bool} {B : Nat → Nat} (h : ∀ b, P b = R b) : ∀ r i, runB P B r i = runB R B r i
  | 0, i => rfl
  | r + 1, i => by
    show (if P (B i) = true then runB P B r (i + 1) else i) = if R (B i) = true then runB R B r (i + 1) else i
    rw [h, runB_cong h r]
theorem skB_idem {B : Nat → Nat} {L p : Nat} (h : p ≤ L) : skB B L (skB B L p) = skB B L p := by
  have b := skB_le (B := B) h
  rcases runB_stop (P := inB 32 32) (B := B) (L - p) p with z | z
  · have e : skB B L p = L := by show runB (inB 32 32) B (L - p) p = L; omega
    rw [e]
    show runB (inB 32 32) B (L - L) L = L
    rw [Nat.sub_self]; rfl
  · have z : inB 32 32 (B (skB B L p)) = false := z
    by_cases q : skB B L p = L
    · rw [q]
      show runB (inB 32 32) B (L - L) L = L
      rw [Nat.sub_self]; rfl
    · show runB (inB 32 32) B (L - skB B L p) (skB B L p) = skB B L p
      have e1 : L - skB B L p = (L - skB B L p - 1) + 1 := by omega
      rw [e1]
      show (if inB 32 32 (B (skB B L p)) = true then _ else skB B L p) = skB B L p
      rw [z, if_neg (by decide)]
theorem teB_le {B : Nat → Nat} {L a : Nat} (h : a ≤ L) : a ≤ teB B L a ∧ teB B L a ≤ L := by
  have := runB_le (P := fun b => soB b == soB (B a)) (B := B) (L - (a + 1)) (a + 1)
  unfold teB
  split
  · split <;> omega
  · omega
theorem teB_lt {B : Nat → Nat} {L a : Nat} (h : a < L) : a + 1 ≤ teB B L a := by
  have := runB_le (P := fun b => soB b == soB (B a)) (B := B) (L - (a + 1)) (a + 1)
  unfold teB
  rw [if_pos h]
  split <;> omega
theorem teB_all {B : Nat → Nat} {L a j : Nat} (h : a < L) (h1 : a ≤ j) (h2 : j < teB B L a) : soB (B j) = soB (B a) := by
  by_cases z : j = a
  · rw [z]
  · unfold teB at h2
    rw [if_pos h] at h2
    split at h2
    · omega
    · exact eq_of_beq (runB_all (P := fun b => soB b == soB (B a)) _ _ j (by omega) h2)
theorem zTn_b : ∀ i, i < 33 → 1 ≤ zTn i ∧ zTn i ≤ 6 := by decide +kernel
def weB (B : Nat → Nat) (k a : Nat) : Nat → Bool
  | 0 => true
  | n + 1 => weB B k a n && decide (nI (B (a + n)) = zTc (k - 2000) (nI n))
theorem weB_f {B : Nat → Nat} {k a n : Nat} (e : weB B k a n = false) : ∀ m, n ≤ m → weB B k a m = false
  | 0, h => by
    have z : n = 0 := by omega
    rw [z] at e; exact e
  | m + 1, h => by
    by_cases q : n = m + 1
    · rw [← q]; exact e
    · show (weB B k a m && _) = false
      rw [weB_f e m (by omega), Bool.false_and]
/-- the word k stands at a -/
def isW (B : Nat → Nat) (L k a : Nat) : Bool := decide (teB B L a = a + zTn (k - 2000)) && weB B k a (zTn (k - 2000))
def tkA (u : zM) (B : Nat → Nat) (L a : Nat) : Prop := zDtx u B L ∧ a ≤ L ∧ u 1 3 = nI a ∧ u 1 4 = nI (teB B L a) ∧ u 1 2 = -1 ∧ skB B L a = a
def tkD (u : zM) (B : Nat → Nat) (L f : Nat) : Prop := zDtx u B L ∧ f ≤ L ∧ u 1 2 = nI f ∧ ∃ a, a ≤ L ∧ u 1 3 = nI a ∧ u 1 4 = nI (teB B L a)
def tkS (u : zM) (B : Nat → Nat) (L : Nat) (σ : Nat ⊕ Nat) : Prop := match σ with
  | .inl f => tkD u B L f
  | .inr a => tkA u B L a
def tkF (u w : zM) : Prop := (∀ c, c ≠ 1 → w c = u c) ∧ ∀ j, j ≠ 2 → j ≠ 3 → j ≠ 4 → w 1 j = u 1 j
theorem tkF.rf (u : zM) : tkF u u := ⟨fun _ _ => rfl, fun _ _ _ _ => rfl⟩
theorem tkF.tr {u v w : zM} (h1 : tkF u v) (h2 : tkF v w) : tkF u w := ⟨fun c a => (h2.1 c a).trans (h1.1 c a), fun j a b c => (h2.2 j a b c).trans (h1.2 j a b c)⟩
def sIs (B : Nat → Nat) (L k : Nat) (σ : Nat ⊕ Nat) : Bool := match σ with
  | .inl _ => false
  | .inr a => isW B L k a
def nxB (B : Nat → Nat) (L a : Nat) : Nat := skB B L (teB B L a)
theorem nxB_le {B : Nat → Nat} {L a : Nat} (h : a ≤ L) : a ≤ nxB B L a ∧ nxB B L a ≤ L := by
  have h1 := teB_le (B := B) h
  have h2 := skB_le (B := B) h1.2
  unfold nxB; omega
theorem nxB_lt {B : Nat → Nat} {L a : Nat} (h : a < L) : a + 1 ≤ nxB B L a := by
  have h0 := teB_le (B := B) (Nat.le_of_lt h)
  have h1 := teB_lt (B := B) h
  have h2 := skB_le (B := B) h0.2
  unfold nxB; omega
theorem isW_lt {B : Nat → Nat} {L k a : Nat} (hk : zStr k) (ha : a ≤ L) (h : isW B L k a = true) : a + zTn (k - 2000) ≤ nxB B L a ∧ a < L := by
  have z := zTn_b (k - 2000) (by have := hk.1; have := hk.2; omega)
  unfold isW at h
  rw [Bool.and_eq_true, decide_eq_true_eq] at h
  have h1 := teB_le (B := B) ha
  have h2 := skB_le (B := B) h1.2
  unfold nxB
  omega
def nxW (B : Nat → Nat) (L k : Nat) (σ : Nat ⊕ Nat) : Nat ⊕ Nat := match σ with
  | .inl f => .inl f
  | .inr a => if isW B L k a = true then .inr (nxB B L a) else .inr a
def nxN (B : Nat → Nat) (L k : Nat) (σ : Nat ⊕ Nat) : Nat ⊕ Nat := match σ with
  | .inl f => .inl f
  | .inr a => if isW B L k a = true then .inr (nxB B L a) else .inl a
def sFl (σ : Nat ⊕ Nat) : Nat ⊕ Nat := match σ with
  | .inl f => .inl f
  | .inr a => .inl a
theorem tkS.dtx {u : zM} {B : Nat → Nat} {L : Nat} {σ : Nat ⊕ Nat} (h : tkS u B L σ) : zDtx u B L := by
  cases σ with
  | inl f => exact h.1
  | inr a => exact h.1
theorem tkS.at {u : zM} {B : Nat → Nat} {L : Nat} {σ : Nat ⊕ Nat} (h : tkS u B L σ) : ∃ a, a ≤ L ∧ u 1 3 = nI a ∧ u 1 4 = nI (teB B L a) := by
  cases σ with
  | inl f => exact h.2.2.2
  | inr a => exact ⟨a, h.2.1, h.2.2.1, h.2.2.2.1⟩
/-- only the tape's cells matter -/
theorem tkS.congr {u w : zM} {B : Nat → Nat} {L : Nat} {σ : Nat ⊕ Nat} (h1 : ∀ j, j < 5 → w 1 j = u 1 j) (h2 : w 2 = u 2) (h : tkS u B L σ) : tkS w B L σ := by
  cases σ with
  | inl f =>
    obtain ⟨⟨a1, a2, a3⟩, b, c, a, d, e, g⟩ := h
    exact ⟨⟨a1, (h1 1 (by decide)).trans a2, fun i hi => by rw [h2]; exact a3 i hi⟩, b, (h1 2 (by decide)).trans c, a, d, (h1 3 (by decide)).trans e, (h1 4 (by decide)).trans g⟩
  | inr a =>
    obtain ⟨⟨a1, a2, a3⟩, b, c, d, e, g⟩ := h
    exact ⟨⟨a1, (h1 1 (by decide)).trans a2, fun i hi => by rw [h2]; exact a3 i hi⟩, b, (h1 3 (by decide)).trans c, (h1 4 (by decide)).trans d, (h1 2 (by decide)).trans e, g⟩
theorem s_nextIs {d k L : Nat} {B : Nat → Nat} {σ : Nat ⊕ Nat} {u : zM} {Q : Option Value → zM → Prop} (hk : zStr k) (hU : tkS u B L σ) (h : Q (some (.int (i01 (sIs B L k σ)))) u) : zCall (d + 2) false 79 [.ref 1, .ref k] u Q := by
  have z8 := zTn_b (k - 2000) (by have := hk.1; have := hk.2; omega)
  obtain ⟨N, hN⟩ : ∃ N, N = zTn (k - 2000) := ⟨_, rfl⟩
  have hT : zTl (k - 2000) = nI N := by rw [hN]; rfl
  have off : ∀ i, i ≤ 8 → Q (some (.int 0)) u → zRun (d + 1) false zcX7_nextIs 2 Q 32 [(0, .ref 1), (1, .ref k), (2, .int 0), (3, .int (nI i))] [] u := fun i hi q =>
    tX7_nextIs_32 (k0 := 1) rfl ⟨hk, fun _ => ⟨Or.inl rfl, q⟩, fun _ => ⟨fun _ => ⟨Or.inl rfl, q⟩, fun z => absurd rfl z⟩⟩
  cases σ with
  | inl f =>
    obtain ⟨⟨h4, -, -⟩, hf, u2, -⟩ := hU
    exact tX7_nextIs (k0 := 1) rfl ⟨fun _ => off 0 (by omega) h, fun z => absurd (u2.symm.trans z) (nI_nm1 (by omega))⟩
  | inr a =>
    obtain ⟨⟨h4, hL, hB⟩, ha, u3, u4, u2, sk⟩ := hU
    have t := teB_le (B := B) ha
    refine tX7_nextIs (k0 := 1) rfl ⟨fun z => absurd u2 z, fun _ => ⟨hk, ?_⟩⟩
    have e : u 1 4 - u 1 3 = nI (teB B L a - a) := by rw [u4, u3, nI_sub t.1]
    rw [e, hT, nI_eq (by omega) (by omega)]
    refine ⟨fun z => off 0 (by omega) ?_, fun z => ?_⟩
    · have f : sIs B L k (.inr a) = false := by
        show (decide (teB B L a = a + zTn (k - 2000)) && _) = false
        rw [← hN, decide_eq_false (by omega), Bool.false_and]
      rw [f] at h; exact h
    · have is : sIs B L k (.inr a) = weB B k a N := by
        show (decide (teB B L a = a + zTn (k - 2000)) && weB B k a (zTn (k - 2000))) = _
        rw [← hN, decide_eq_true (by omega), Bool.true_and]
      rw [is] at h
      have go : ∀ r i, i + r = N → weB B k a i = true → zRun (d + 1) false zcX7_nextIs 2 Q 32 [(0, .ref 1), (1, .ref k), (2, .int 1), (3, .int (nI i))] [] u := by
        intro r
        induction r with
        | zero =>
          intro i hi ei
          have e0 : i = N := by omega
          subst e0
          rw [ei] at h
          refine tX7_nextIs_32 (k0 := 1) rfl ⟨hk, fun _ => ⟨Or.inr rfl, h⟩, fun z2 => absurd ?_ z2⟩
          rw [hT, nI_leI (by omega) (by omega)]; omega
        | succ r ih =>
          intro i hi ei
          refine tX7_nextIs_32 (k0 := 1) rfl ⟨hk, fun z2 => ?_, fun _ => ⟨fun z2 => absurd z2 (by decide), fun _ => ?_⟩⟩
          · rw [hT, nI_leI (by omega) (by omega)] at z2; omega
          · refine s_byteAt (k0 := 1) (i := a + i) (L := L) rfl (by rw [u3, nI_add]) hL h4 (by omega) ⟨_, rfl, hk, vp_in_nI (by omega) (by omega), ?_⟩
            rw [(hB (a + i) (by omega)).2, nI_1 i]
            refine ⟨fun z2 => off (i + 1) (by omega) ?_, fun z2 => ih (i + 1) (by omega) ?_⟩
            · have f : weB B k a (i + 1) = false := by
                show (weB B k a i && decide _) = false
                rw [decide_eq_false z2, Bool.and_false]
              rw [weB_f f N (by omega)] at h; exact h
            · show (weB B k a i && decide _) = true
              rw [ei, decide_eq_true z2]; rfl
      exact go N 0 (by omega) rfl
theorem s_fail {d L : Nat} {B : Nat → Nat} {σ : Nat ⊕ Nat} {u : zM} {Q : Option Value → zM → Prop} (hU : tkS u B L σ) (h : ∀ w, tkF u w → tkS w B L (sFl σ) → Q none w) : zCall (d + 1) false 78 [.ref 1] u Q := by
  cases σ with
  | inl f =>
    have hU' := hU
    obtain ⟨⟨h4, -, -⟩, hf, u2, -⟩ := hU
    exact tX7_fail (k0 := 1) rfl ⟨fun _ => h u (tkF.rf u) hU', fun z => absurd (u2.symm.trans z) (nI_nm1 (by omega))⟩
  | inr a =>
    obtain ⟨⟨h4, hL, hB⟩, ha, u3, u4, u2, sk⟩ := hU
    refine tX7_fail (k0 := 1) rfl ⟨fun z => absurd u2 z, fun _ => h _ ⟨fun c hc => zUp_k _ _ hc, fun j x _ _ => zUp_j _ _ x⟩ ?_⟩
    exact ⟨⟨h4, (zUp_j _ _ (by decide)).trans hL, fun i hi => ⟨(hB i hi).1, by rw [zUp_k _ _ (by decide)]; exact (hB i hi).2⟩⟩, ha, by rw [zUp_at]; exact u3, a, ha, (zUp_j _ _ (by decide)).trans u3, (zUp_j _ _ (by decide)).trans u4⟩
theorem s_nx {d L a : Nat} {B : Nat → Nat} {u : zM} {Q : Option Value → zM → Prop} (hU : tkA u B L a) (h : ∀ w, tkF u w → tkA w B L (nxB B L a) → Q none w) : zCall (d + 2) false 76 [.ref 1] u Q := by
  obtain ⟨hD, ha, u3, u4, u2, sk⟩ := hU
  have t := teB_le (B := B) ha
  have t2 := skB_le (B := B) t.2
  refine s_goOn hD u4 t.2 (fun w f g w3 w4 => h w ⟨f, fun j _ b c => g j b c⟩ ?_)
  obtain ⟨h4, hL, hB⟩ := hD
  exact ⟨⟨h4, (g 1 (by decide) (by decide)).trans hL, fun i hi => ⟨(hB i hi).1, by rw [f 2 (by decide)]; exact (hB i hi).2⟩⟩, t2.2, w3, w4, (g 2 (by decide) (by decide)).trans u2, skB_idem t.2⟩
theorem s_word {d k L : Nat} {B : Nat → Nat} {σ : Nat ⊕ Nat} {u : zM} {Q : Option Value → zM → Prop} (hk : zStr k) (hU : tkS u B L σ) (h : ∀ w, tkF u w → tkS w B L (nxW B L k σ) → Q (some (.int (i01 (sIs B L k σ)))) w) : zCall (d + 3) false 81 [.ref 1, .ref k] u Q := by
  refine t2X7_word (k0 := 1) rfl ?_
  refine s_nextIs hk hU ⟨_, rfl, ?_⟩
  cases σ with
  | inl f => exact ⟨fun _ => ⟨Or.inl rfl, h u (tkF.rf u) hU⟩, fun z => absurd rfl z⟩
  | inr a =>
    cases q : isW B L k a
    · have e : nxW B L k (.inr a) = .inr a := by show (if isW B L k a = true then _ else _) = _; rw [q, if_neg (by decide)]
      have e2 : sIs B L k (.inr a) = false := q
      rw [e, e2] at h
      rw [e2]
      exact ⟨fun _ => ⟨Or.inl rfl, h u (tkF.rf u) hU⟩, fun z => absurd rfl z⟩
    · have e : nxW B L k (.inr a) = .inr (nxB B L a) := by show (if isW B L k a = true then _ else _) = _; rw [q, if_pos rfl]
      have e2 : sIs B L k (.inr a) = true := q
      rw [e, e2] at h
      rw [e2]
      exact ⟨fun z => absurd z (by decide), fun _ => s_nx hU (fun w f t => ⟨rfl, Or.inr rfl, h w f t⟩)⟩
theorem s_needWord {d k L : Nat} {B : Nat → Nat} {σ : Nat ⊕ Nat} {u : zM} {Q : Option Value → zM → Prop} (hk : zStr k) (hU : tkS u B L σ) (h : ∀ w, tkF u w → tkS w B L (nxN B L k σ) → Q none w) : zCall (d + 3) false 82 [.ref 1, .ref k] u Q := by
  refine t2X7_needWord (k0 := 1) rfl ?_
  refine s_nextIs hk hU ⟨_, rfl, ?_⟩
  cases σ with
  | inl f => exact ⟨fun _ => s_fail (σ := .inl f) hU (fun w f t => ⟨rfl, h w f t⟩), fun z => absurd rfl z⟩
  | inr a =>
    cases q : isW B L k a
    · have e : nxN B L k (.inr a) = .inl a := by show (if isW B L k a = true then _ else _) = _; rw [q, if_neg (by decide)]
      have e2 : sIs B L k (.inr a) = false := q
      rw [e] at h
      rw [e2]
      exact ⟨fun _ => s_fail (σ := .inr a) hU (fun w f t => ⟨rfl, h w f t⟩), fun z => absurd rfl z⟩
    · have e : nxN B L k (.inr a) = .inr (nxB B L a) := by show (if isW B L k a = true then _ else _) = _; rw [q, if_pos rfl]
      have e2 : sIs B L k (.inr a) = true := q
      rw [e] at h
      rw [e2]
      exact ⟨fun z => absurd z (by decide), fun _ => s_nx hU (fun w f t => ⟨rfl, h w f t⟩)⟩
