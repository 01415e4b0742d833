/-! reading a text: bytes, blanks, letters -/
def runB (P : Nat → Bool) (B : Nat → Nat) : Nat → Nat → Nat
  | 0, i => i
  | r + 1, i => if P (B i) = true then runB P B r (i + 1) else i
theorem runB_le {P : Nat → Bool} {B : Nat → Nat} : ∀ r i, i ≤ runB P B r i ∧ runB P B r i ≤ i + r
  | 0, i => ⟨Nat.le_refl _, Nat.le_refl _⟩
  | r + 1, i => by
    have := runB_le (P := P) (B := B) r (i + 1)
    unfold runB
    split <;> omega
/-- the text of the reference: its bytes, its end, its point -/
def zRtx (u : zM) (B : Nat → Nat) (L p : Nat) : Prop := L ≤ 400 ∧ p ≤ L ∧ u 128 12 = nI L ∧ u 128 11 = nI p ∧ ∀ i, i < L → B i < 256 ∧ u 135 i = (nI (B i)).toInt8.toInt32
def inB (lo hi b : Nat) : Bool := decide (lo ≤ b ∧ b ≤ hi)
theorem s_isAt {d lo hi L p : Nat} {B : Nat → Nat} {a1 a2 : Int32} {u : zM} {Q : Option Value → zM → Prop} (e1 : a1 = nI lo) (e2 : a2 = nI hi) (hl : lo < 128) (hh : hi < 128) (hU : zRtx u B L p) (h : Q (some (.int (i01 (decide (p < L) && inB lo hi (B p))))) u) : zCall (d + 1) false 203 [.ref 128, .int a1, .int a2] u Q := by
  subst e1; subst e2
  obtain ⟨h4, hp, u12, u11, hB⟩ := hU
  refine tX12_isAt ?_
  rw [u12, u11]
  by_cases q : p < L
  · obtain ⟨b1, b2⟩ := hB p q
    rw [decide_eq_true q, Bool.true_and] at h
    refine br_f (by rw [nI_leI (by omega) (by omega)]; omega) ⟨vp_in_nI (by omega) (by decide), ?_⟩
    rw [nI_clamp (n := p) (by omega), b2]
    rcases s8_ex _ b1 with ⟨c1, c2⟩ | ⟨c1, c2⟩
    · rw [c2]
      refine ⟨fun z => ?_, fun z => ⟨vp_in_nI (by omega) (by decide), fun z2 => ?_, fun z2 => ?_⟩⟩
      · rw [nI_ltI (by omega) (by omega)] at z
        have e : inB lo hi (B p) = false := decide_eq_false (by omega)
        rw [e] at h; exact h
      · rw [nI_ltI (by omega) (by omega)] at z z2
        have e : inB lo hi (B p) = false := decide_eq_false (by omega)
        rw [e] at h; exact h
      · rw [nI_ltI (by omega) (by omega)] at z z2
        have e : inB lo hi (B p) = true := decide_eq_true (by omega)
        rw [e] at h; exact h
    · have e : inB lo hi (B p) = false := decide_eq_false (by omega)
      rw [e] at h
      exact br_t (Int32.lt_of_lt_of_le c2 (Int32.not_lt.mp (nI_pos (by omega)))) h
  · rw [decide_eq_false q, Bool.false_and] at h
    exact br_t (by rw [nI_leI (by omega) (by omega)]; omega) h
/-- the blanks of the reference -/
theorem s_blanks {d L p : Nat} {B : Nat → Nat} {u : zM} {Q : Option Value → zM → Prop} (hU : zRtx u B L p)
    (h : ∀ w, (∀ c, c ≠ 128 → w c = u c) → (∀ j, j ≠ 11 → j ≠ 13 → w 128 j = u 128 j) → w 128 13 = nI (runB (inB 32 32) B (L - p) p) → zRtx w B L (runB (inB 32 32) B (L - p) p) → Q none w) : zCall (d + 2) false 204 [.ref 128] u Q := by
  have go : ∀ r i (w : zM), i + r = L → (∀ c, c ≠ 128 → w c = u c) → (∀ j, j ≠ 11 → j ≠ 13 → w 128 j = u 128 j) → zRtx w B L i → runB (inB 32 32) B r i = runB (inB 32 32) B (L - p) p → zRun (d + 1) false zcX12_blanks 0 Q 0 [(0, .ref 128)] [] w := by
    intro r
    induction r with
    | zero =>
      intro i w hi f g t e
      refine tX12_blanks_0 ?_
      refine s_isAt (lo := 32) (hi := 32) rfl rfl (by decide) (by decide) t ⟨_, rfl, ?_⟩
      rw [decide_eq_false (by omega), Bool.false_and]
      refine br_t rfl ?_
      have e0 : runB (inB 32 32) B 0 i = i := rfl
      rw [e0] at e
      obtain ⟨t1, t2, t3, t4, t5⟩ := t
      rw [t4]
      refine h _ (fun c a => (zUp_k _ _ a).trans (f c a)) (fun j a b => (zUp_j _ _ b).trans (g j a b)) ?_ ⟨t1, by rw [← e]; exact t2, (zUp_j _ _ (by decide)).trans t3, ?_, ?_⟩
      · rw [zUp_at, e]
      · rw [zUp_j _ _ (by decide), t4, e]
      · rw [zUp_k _ _ (by decide)]; exact t5
    | succ r ih =>
      intro i w hi f g t e
      have l : runB (inB 32 32) B (r + 1) i = if inB 32 32 (B i) = true then runB (inB 32 32) B r (i + 1) else i := rfl
      rw [l] at e
      have t' := t
      obtain ⟨t1, t2, t3, t4, t5⟩ := t
      refine tX12_blanks_0 ?_
      refine s_isAt (lo := 32) (hi := 32) rfl rfl (by decide) (by decide) t' ⟨_, rfl, ?_⟩
      rw [decide_eq_true (show i < L by omega), Bool.true_and]
      cases b : inB 32 32 (B i)
      · rw [b, if_neg (by decide)] at e
        refine br_t rfl ?_
        rw [t4]
        refine h _ (fun c a => (zUp_k _ _ a).trans (f c a)) (fun j a b => (zUp_j _ _ b).trans (g j a b)) ?_ ⟨t1, by rw [← e]; exact t2, (zUp_j _ _ (by decide)).trans t3, ?_, ?_⟩
        · rw [zUp_at, e]
        · rw [zUp_j _ _ (by decide), t4, e]
        · rw [zUp_k _ _ (by decide)]; exact t5
      · rw [b, if_pos rfl] at e
        refine br_f (by decide) ?_
        rw [t4, nI_1 i]
        refine ih (i + 1) _ (by omega) (fun c a => (zUp_k _ _ a).trans (f c a)) (fun j a b => (zUp_j _ _ a).trans (g j a b)) ⟨t1, by omega, (zUp_j _ _ (by decide)).trans t3, zUp_at _ _ _ _, ?_⟩ e
        rw [zUp_k _ _ (by decide)]; exact t5
  have hp := hU.2.1
  by_cases q : p < L
  · refine tX12_blanks ?_
    refine s_isAt (lo := 32) (hi := 32) rfl rfl (by decide) (by decide) hU ⟨_, rfl, ?_⟩
    rw [decide_eq_true q, Bool.true_and]
    obtain ⟨t1, t2, t3, t4, t5⟩ := hU
    have e1 : L - p = (L - p - 1) + 1 := by omega
    have l : runB (inB 32 32) B (L - p) p = if inB 32 32 (B p) = true then runB (inB 32 32) B (L - p - 1) (p + 1) else p := by rw [e1]; rfl
    cases b : inB 32 32 (B p)
    · rw [b, if_neg (by decide)] at l
      refine br_t rfl ?_
      rw [t4]
      refine h _ (fun c a => zUp_k _ _ a) (fun j a b => zUp_j _ _ b) (by rw [zUp_at, l]) ⟨t1, by rw [l]; exact t2, (zUp_j _ _ (by decide)).trans t3, by rw [zUp_j _ _ (by decide), t4, l], by rw [zUp_k _ _ (by decide)]; exact t5⟩
    · rw [b, if_pos rfl] at l
      refine br_f (by decide) ?_
      rw [t4, nI_1 p]
      exact go (L - p - 1) (p + 1) _ (by omega) (fun c a => zUp_k _ _ a) (fun j a b => zUp_j _ _ a) ⟨t1, by omega, (zUp_j _ _ (by decide)).trans t3, zUp_at _ _ _ _, by rw [zUp_k _ _ (by decide)]; exact t5⟩ l.symm
  · refine tX12_blanks ?_
    refine s_isAt (lo := 32) (hi := 32) rfl rfl (by decide) (by decide) hU ⟨_, rfl, ?_⟩
    rw [decide_eq_false q, Bool.false_and]
    obtain ⟨t1, t2, t3, t4, t5⟩ := hU
    have e1 : L - p = 0 := by omega
    have l : runB (inB 32 32) B (L - p) p = p := by rw [e1]; rfl
    refine br_t rfl ?_
    rw [t4]
    exact h _ (fun c a => zUp_k _ _ a) (fun j a b => zUp_j _ _ b) (by rw [zUp_at, l]) ⟨t1, by rw [l]; exact t2, (zUp_j _ _ (by decide)).trans t3, by rw [zUp_j _ _ (by decide), t4, l], by rw [zUp_k _ _ (by decide)]; exact t5⟩
