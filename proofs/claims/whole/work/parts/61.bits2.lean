theorem tb_and (x y : Int32) (t : Nat) : tb (x &&& y) t = (tb x t && tb y t) := by unfold tb; rw [Int32.toBitVec_and, BitVec.getLsbD_and]
theorem tb_m1 : ∀ t, t < 32 → tb (-1) t = true := by decide +kernel
theorem tb_not (x : Int32) {t : Nat} (ht : t < 32) : tb (x ^^^ (-1)) t = !tb x t := by
  have h : tb (x ^^^ (-1)) t = (tb x t ^^ tb (-1) t) := by unfold tb; rw [Int32.toBitVec_xor, BitVec.getLsbD_xor]
  rw [h, tb_m1 t ht]; cases tb x t <;> rfl
theorem tb_one : ∀ t, t < 32 → tb 1 t = decide (t = 0) := by decide +kernel
theorem tb_bit32 : ∀ s, s < 32 → ∀ t, t < 32 → tb (zBit s) t = decide (t = s) := by decide +kernel
theorem i_shn : ∀ j, j < 32 → ((nI j &&& 31).toBitVec.smod 32).toNat = j := by decide +kernel
theorem tb_shr0 (x : Int32) {j : Nat} (hj : j < 32) : tb (x >>> (nI j &&& 31)) 0 = tb x j := by
  unfold tb
  rw [Int32.toBitVec_shiftRight]
  show (x.toBitVec.sshiftRight (((nI j &&& 31).toBitVec.smod 32).toNat)).getLsbD 0 = _
  rw [i_shn j hj, BitVec.getLsbD_sshiftRight]
  simp [hj]
theorem tb_shr (x : Int32) {j : Nat} (hj : j < 32) : ((x >>> (nI j &&& 31)) &&& 1) = if tb x j = true then 1 else 0 := by
  refine tb_ext (fun t ht => ?_)
  rw [tb_and, tb_one t ht]
  by_cases h0 : t = 0
  · subst h0
    rw [tb_shr0 x hj]
    cases tb x j <;> simp [tb_one, tb_0]
  · have e : decide (t = 0) = false := by simpa using h0
    rw [e, Bool.and_false]
    cases tb x j
    · exact (tb_0 t).symm
    · exact (by rw [if_pos rfl, tb_one t ht, e])
theorem tb_sh0 (x : Int32) {j : Nat} (hj : j < 32) : ((x >>> (nI j &&& 31)) &&& 1) = 0 ↔ tb x j = false := by
  rw [tb_shr x hj]; cases tb x j <;> simp
theorem tb_sh1 (x : Int32) {j : Nat} (hj : j < 32) : ((x >>> (nI j &&& 31)) &&& 1) = 1 ↔ tb x j = true := by
  rw [tb_shr x hj]; cases tb x j <;> simp
theorem zor_tb (p : Nat → Bool) {t : Nat} (ht : t < 32) : ∀ n, n ≤ 32 → tb (zor p n) t = (decide (t < n) && p t)
  | 0, _ => by
    have e : decide (t < 0) = false := by simp
    rw [e, Bool.false_and]; exact tb_0 t
  | n + 1, h => by
    have ih := zor_tb p ht n (by omega)
    have hb : tb ((1 : Int32) <<< (nI n &&& 31)) t = decide (t = n) := tb_bit32 n (by omega) t ht
    unfold zor
    by_cases e : t = n
    · subst e
      by_cases hp : p t = true
      · rw [if_pos hp, tb_or, hb]; simp [hp]
      · rw [if_neg hp, ih]; simp [hp]
    · have e2 : decide (t < n + 1) = decide (t < n) := by congr 1; exact propext ⟨fun _ => by omega, fun _ => by omega⟩
      rw [e2]
      by_cases hp : p n = true
      · rw [if_pos hp, tb_or, hb, ih]; simp [e]
      · rw [if_neg hp, ih]
theorem zct_full {p : Nat → Bool} : ∀ n, n ≤ zct p n → ∀ c, c < n → p c = true
  | 0, _, c, hc => absurd hc (Nat.not_lt_zero _)
  | n + 1, h, c, hc => by
    have hl := zct_le p n
    unfold zct at h
    by_cases hp : p n = true
    · rw [if_pos hp] at h
      by_cases e : c = n
      · subst e; exact hp
      · exact zct_full n (by omega) c (by omega)
    · rw [if_neg hp] at h; omega
/-- what can be come to from 0 -/
def rcR (E : Nat → Nat → Prop) (src : Prop) (c : Nat) : Prop := ∀ S : Nat → Prop, (src → S 0) → (∀ c d, c < 12 → d < 12 → S c → E c d → S d) → S c
theorem rcR_src {E : Nat → Nat → Prop} {src : Prop} (h : src) : rcR E src 0 := fun _ h0 _ => h0 h
theorem rcR_step {E : Nat → Nat → Prop} {src : Prop} {c d : Nat} (hc : c < 12) (hd : d < 12) (h : rcR E src c) (e : E c d) : rcR E src d := fun S h0 h1 => h1 c d hc hd (h S h0 h1) e
noncomputable def rcX (E : Nat → Nat → Prop) (src : Prop) : Int32 := zor (fun t => @decide (rcR E src t) (Classical.propDecidable _)) 12
theorem rcX_is {E : Nat → Nat → Prop} {src : Prop} {x : Int32} (h : ∀ t, t < 32 → (tb x t = true ↔ t < 12 ∧ rcR E src t)) : x = rcX E src := by
  refine tb_ext (fun t ht => ?_)
  unfold rcX
  rw [zor_tb _ ht 12 (by decide)]
  have h2 := h t ht
  by_cases q : t < 12 ∧ rcR E src t
  · rw [h2.mpr q, decide_eq_true q.1, @decide_eq_true _ (Classical.propDecidable _) q.2]; rfl
  · have e : tb x t = false := Bool.eq_false_iff.mpr (fun z => q (h2.mp z))
    rw [e]
    by_cases q1 : t < 12
    · rw [@decide_eq_false _ (Classical.propDecidable _) (fun z => q ⟨q1, z⟩), Bool.and_false]
    · rw [decide_eq_false q1, Bool.false_and]
def rcE (R : Nat → Nat → Nat) (x a b : Int32) (c d : Nat) : Prop := 0 < R c d ∧ ¬ nI d = x ∧ ¬ (nI c = a ∧ nI d = b) ∧ ¬ (nI c = b ∧ nI d = a)
theorem s_lowest {d : Nat} {x : Int32} {u : zM} {Q : Option Value → zM → Prop} (h1 : ∀ l, l < 12 → tb x l = true → (∀ i, i < l → tb x i = false) → Q (some (.int (nI l))) u) (h2 : (∀ i, i < 12 → tb x i = false) → Q (some (.int 0)) u) : zCall (d + 1) false 58 [.int x] u Q := by
  refine tX5_lowest ?_
  refine zFor (σ := Unit) (Pr := fun i _ => zRun d false zcX5_lowest 1 Q 2 [(0, .int x), (1, .int (nI i))] [] u) (fun i _ => ∀ j, j < i → tb x j = false) 12 (fun _ hx => ?_) (fun i _ hi hx ih => ?_) () (fun j hj => absurd hj (Nat.not_lt_zero _))
  · exact tX5_lowest_2 ⟨fun _ => h2 hx, fun q => absurd (by decide) q⟩
  · refine tX5_lowest_2 ?_
    rw [nI_1 i, tb_sh0 x (by omega)]
    refine ⟨fun q => absurd q (by rw [nI_lit, nI_leI (by omega) (by omega)]; omega), fun _ => ⟨fun q => ih () (fun j hj => ?_), fun q => h1 i hi (by simpa using q) hx⟩⟩
    by_cases e : j = i
    · subst e; exact q
    · exact hx j (by omega)
