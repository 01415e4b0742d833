theorem low_ex : ∀ x, x < 256 → 0 < x → ∃ l, l < 8 ∧ ((nI x ^^^ (-1)) &&& (nI x - 1)) = nI (2 ^ l - 1) ∧ tb (nI x) l = true ∧ ∀ i, i < l → tb (nI x) i = false := by decide +kernel
theorem s_ntz {d x : Nat} {a0 : Int32} {u : zM} {Q : Option Value → zM → Prop} (e0 : a0 = nI x) (hx : x < 256) (h0 : 0 < x) (h : ∀ l, l < 8 → tb (nI x) l = true → (∀ i, i < l → tb (nI x) i = false) → Q (some (.int (nI l))) u) : zCall (d + 1) false 326 [.int a0] u Q := by
  subst e0
  obtain ⟨l, hl, e, h1, h2⟩ := low_ex x hx h0
  have hQ := h l hl h1 h2
  refine tJ6_ntz ?_
  rw [e]
  have cs : l = 0 ∨ l = 1 ∨ l = 2 ∨ l = 3 ∨ l = 4 ∨ l = 5 ∨ l = 6 ∨ l = 7 := by omega
  clear e h1 h2 h hl
  rcases cs with rfl | rfl | rfl | rfl | rfl | rfl | rfl | rfl
  · exact br_f (by decide) hQ
  · exact br_t (by decide) (br_t (by decide) (br_t (by decide) (br_t (by decide) (br_t (by decide) hQ))))
  · exact br_t (by decide) (br_t (by decide) (br_t (by decide) (br_t (by decide) (br_t (by decide) hQ))))
  · exact br_t (by decide) (br_t (by decide) (br_t (by decide) (br_t (by decide) (br_f (by decide) hQ))))
  · exact br_t (by decide) (br_t (by decide) (br_t (by decide) (br_t (by decide) (br_f (by decide) hQ))))
  · exact br_t (by decide) (br_t (by decide) (br_t (by decide) (br_f (by decide) (br_t (by decide) hQ))))
  · exact br_t (by decide) (br_t (by decide) (br_t (by decide) (br_f (by decide) (br_t (by decide) hQ))))
  · exact br_t (by decide) (br_t (by decide) (br_t (by decide) (br_f (by decide) (br_f (by decide) hQ))))
theorem or_bit : ∀ n, n < 8 → ∀ x, x < 256 → x < 2 ^ n → nI x ||| ((1 : Int32) <<< (nI n &&& 31)) = nI (x + 2 ^ n) := by decide +kernel
theorem zor_nat (p : Nat → Bool) : ∀ n, n ≤ 8 → ∃ x, x < 2 ^ n ∧ zor p n = nI x
  | 0, _ => ⟨0, by decide, rfl⟩
  | n + 1, h => by
    obtain ⟨x, hx, e⟩ := zor_nat p n (by omega)
    have h2 : 2 ^ n ≤ 2 ^ 7 := Nat.pow_le_pow_right (by decide) (by omega)
    have h3 : 2 ^ (n + 1) = 2 ^ n + 2 ^ n := by rw [Nat.pow_succ]; omega
    unfold zor
    by_cases q : p n = true
    · rw [if_pos q, e, or_bit n (by omega) x (by omega) hx]
      exact ⟨x + 2 ^ n, by omega, rfl⟩
    · rw [if_neg q, e]
      exact ⟨x, by omega, rfl⟩
/-- bottles of all -/
def pBot (W : Nat → Int32) (n : Nat) : Int32 := zsm (fun s => W (163 + 9 * s + 3)) n + zsm (fun s => W (163 + 9 * s + 4)) n
theorem zsm_nat {f : Nat → Int32} {B : Nat} : ∀ n, (∀ s, s < n → ∃ c, c ≤ B ∧ f s = nI c) → ∃ c, c ≤ B * n ∧ zsm f n = nI c
  | 0, _ => ⟨0, by omega, rfl⟩
  | n + 1, h => by
    obtain ⟨c, h1, h2⟩ := zsm_nat n (fun s hs => h s (by omega))
    obtain ⟨x, h3, h4⟩ := h n (by omega)
    refine ⟨c + x, by rw [Nat.mul_succ]; omega, ?_⟩
    show zsm f n + f n = _
    rw [h2, h4, nI_add]
theorem pBot_nat {W : Nat → Int32} {n : Nat} (hR : zRg W n) : ∃ c, c ≤ 1000 ∧ pBot W n = nI c := by
  have h8 := hR.1.1
  obtain ⟨a, ha, ea⟩ := zsm_nat (f := fun s => W (163 + 9 * s + 3)) (B := 9) n (fun s hs => hR.vs s 3 (by omega) (by omega) (by omega))
  obtain ⟨b, hb, eb⟩ := zsm_nat (f := fun s => W (163 + 9 * s + 4)) (B := 9) n (fun s hs => hR.vs s 4 (by omega) (by omega) (by omega))
  exact ⟨a + b, by omega, by unfold pBot; rw [ea, eb, nI_add]⟩
theorem s_bottles {d n k : Nat} {W : Nat → Int32} {u : zM} {Q : Option Value → zM → Prop} (hk : zShapes[k]? = some (.inl 1)) (hR : zRg W n) (hV : zDyV u k W) (h : Q (some (.int (pBot W n))) u) : zCall (d + 3) false 16 [.ref k] u Q := by
  have h8 := hR.1.1
  have hn : u k 3 = nI n := hV.1.1.trans hR.1.2
  refine tX1_bottles hk ?_
  refine s_sum (w := 3) hk rfl (by decide) hn h8 ⟨_, rfl, ?_⟩
  refine s_sum (w := 4) hk rfl (by decide) hn h8 ⟨_, rfl, ?_⟩
  rw [zsm_congr (q := fun s => W (163 + 9 * s + 3)) n (fun s hs => hV.2.1 s 3 (by omega) (by decide)), zsm_congr (q := fun s => W (163 + 9 * s + 4)) n (fun s hs => hV.2.1 s 4 (by omega) (by decide))]
  exact h
theorem s_bottlesNow {d n : Nat} {u : zM} {Q : Option Value → zM → Prop} (hR : zRg (u 129) n) (h : Q (some (.int (pBot (u 129) n))) u) : zCall (d + 4) false 293 [.ref 128] u Q := by
  have h8 := hR.1.1
  refine tX12_bottlesNow ?_
  refine s_sumOf (w := 3) rfl (by decide) hR.1.2 h8 ⟨_, rfl, ?_⟩
  exact s_sumOf (w := 4) rfl (by decide) hR.1.2 h8 ⟨_, rfl, h⟩
/-! the class's draft -/
def zDf (u w : zM) : Prop := ∀ c, (c < 22 ∨ 40 < c) → w c = u c
theorem zDf.same {u w : zM} (h : zDf u w) : zSame u w := by
  refine ⟨fun c hc => h c ?_, ?_, ?_⟩
  · simp only [zCare, Bool.or_eq_true, Bool.and_eq_true, decide_eq_true_eq, beq_iff_eq] at hc
    omega
  · rw [h 128 (by decide)]; exact ⟨rfl, rfl, rfl, rfl⟩
  · rw [h 1 (by decide)]; exact ⟨rfl, rfl⟩
theorem zDf.tr {u v w : zM} (h1 : zDf u v) (h2 : zDf v w) : zDf u w := fun c hc => (h2 c hc).trans (h1 c hc)
theorem zFq.df {u w : zM} (h : zFq 22 u w) : zDf u w := fun c hc => h.1 c (by omega) (by omega) (by omega) (by omega) (by omega) (by omega) (by omega)
theorem zInv.sb {u : zM} {n : Nat} (hI : zInv u n) : zSb u 3 (u 129) := ⟨zDyV.of hI.1.2.2.1, hI.1.2.2.2, hI.2.1⟩
theorem s_draft {d n : Nat} {u : zM} {Q : Option Value → zM → Prop} (hI : zInv u n) (h : ∀ w, zDf u w → zSb w 22 (u 129) → Q none w) : zCall (d + 3) false 59 [.ref 22, .ref 3] u Q :=
  s_copySub rfl rfl (by omega) (fun w f a _ => h w (fun c hc => f c (by omega)) (a _ hI.sb))
/-! the reference's trial -/
def zMd (u w : zM) (W : Nat → Int32) : Prop := (∀ k, k ≠ 128 → k ≠ 129 → k ≠ 132 → k ≠ 137 → w k = u k) ∧ (∀ j, j ≠ 0 → (j < 19 ∨ 23 < j) → w 128 j = u 128 j) ∧ w 128 0 = 0 ∧ w 129 = W ∧ ∀ j, j < 475 → w 132 j = u 129 j
theorem s_keep {d : Nat} {u m1 : zM} {Q : Option Value → zM → Prop} (e1 : m1 = zUp u 128 0 0) (h : ∀ w, zMd u w (u 129) → Q none w) : zCall (d + 1) false 257 [.ref 128] m1 Q := by
  refine s_keepsAll (fun w f g => h w ⟨fun k a b c x => ?_, fun j a b => ?_, ?_, ?_, fun j hj => ?_⟩)
  · rw [f k c, e1, zUp_k _ _ a]
  · rw [f 128 (by decide), e1, zUp_j _ _ a]
  · rw [f 128 (by decide), e1, zUp_at]
  · rw [f 129 (by decide), e1, zUp_k _ _ (by decide)]
  · rw [g j hj, e1, zUp_k _ _ (by decide)]
theorem s_go {d n m : Nat} {calm : Bool} {W : Nat → Int32} {a1 a2 : Int32} {u w : zM} {Q : Option Value → zM → Prop} (e1 : a1 = nI m) (e2 : a2 = zCm calm) (hm : m ≤ 60) (hM : zMd u w W) (hR : zRg W n) (hw : lwWf W) (hF : zFx (u 129) W) (hf : ∀ a b, a < 12 → b < 12 → u 134 (12 * a + b) = nI (zFar (u 129) a b))
    (h : ∀ w2, zMd u w2 (pGo calm W n m) → Q (some (.int (nI (pSum calm W n m)))) w2) : zCall (d + 9) false 256 [.ref 128, .int a1, .int a2] w Q := by
  obtain ⟨f1, f2, f3, f4, f5⟩ := hM
  subst f4
  refine s_goesOn e1 e2 hm hR hw (by rw [hF.far, f1 134 (by decide) (by decide) (by decide) (by decide)]; exact hf) (fun w2 a b c => h w2 ⟨fun k x y z t => (a k x y t).trans (f1 k x y z t), fun j x y => (b j y).trans (f2 j x y), (b 0 (by decide)).trans f3, c, fun j hj => by rw [a 132 (by decide) (by decide) (by decide)]; exact f5 j hj⟩)
theorem s_oneM {d n : Nat} {calm : Bool} {W : Nat → Int32} {a1 : Int32} {u w : zM} {Q : Option Value → zM → Prop} (e1 : a1 = zCm calm) (hM : zMd u w W) (hR : zRg W n) (hw : lwWf W) (hF : zFx (u 129) W) (hf : ∀ a b, a < 12 → b < 12 → u 134 (12 * a + b) = nI (zFar (u 129) a b))
    (h : ∀ w2, zMd u w2 (pMorn calm W n) → Q (some (.int (nI (pRide W n).t))) w2) : zCall (d + 8) false 255 [.ref 128, .int a1] w Q := by
  obtain ⟨f1, f2, f3, f4, f5⟩ := hM
  subst f4
  refine s_oneMorning e1 hR hw (by rw [hF.far, f1 134 (by decide) (by decide) (by decide) (by decide)]; exact hf) (fun w2 a b c => h w2 ⟨fun k x y z t => (a k x y t).trans (f1 k x y z t), fun j x y => (b j y).trans (f2 j x y), (b 0 (by decide)).trans f3, c, fun j hj => by rw [a 132 (by decide) (by decide) (by decide)]; exact f5 j hj⟩)
theorem s_bring {d : Nat} {W : Nat → Int32} {u w : zM} {Q : Option Value → zM → Prop} (hM : zMd u w W) (hF : zFx (u 129) W) (h : ∀ w2, zMd u w2 (u 129) → Q none w2) : zCall (d + 1) false 258 [.ref 128] w Q := by
  obtain ⟨f1, f2, f3, f4, f5⟩ := hM
  refine s_bringsBack (fun w2 a b => h w2 ⟨fun k x y z t => (a k y).trans (f1 k x y z t), fun j x y => by rw [a 128 (by decide)]; exact f2 j x y, by rw [a 128 (by decide)]; exact f3, ?_, fun j hj => by rw [a 132 (by decide)]; exact f5 j hj⟩)
  funext j
  rw [b j]
  by_cases q : j < 475
  · rw [if_pos q]; exact f5 j q
  · rw [if_neg q, f4]; exact hF.2.1 j (by omega)
theorem zMd.same {u w : zM} (h : zMd u w (u 129)) : zSame u w := by
  obtain ⟨f1, f2, f3, f4, f5⟩ := h
  refine ⟨fun c hc => ?_, ⟨f2 6 (by decide) (by decide), f2 7 (by decide) (by decide), f2 10 (by decide) (by decide), f2 15 (by decide) (by decide)⟩, ?_⟩
  · by_cases q : c = 129
    · subst q; exact f4
    · refine f1 c (fun z => ?_) q (fun z => ?_) (fun z => ?_) <;> subst z <;> exact absurd hc (by decide)
  · rw [f1 1 (by decide) (by decide) (by decide) (by decide)]; exact ⟨rfl, rfl⟩
/-- a pair that asks, of a whole state -/
def zAskI (x m : Nat) (as : List Value) (codes : List (Int32 × Int32)) : Prop := ∀ u n, zInv u n →
  (zCall 60 false x (.ref 0 :: as) u fun v w => zSame u w ∧ ∀ o : Int32, zCall 60 false m (.ref 128 :: as) (zUp w 142 0 o) fun v2 w2 => v2 = v ∧ w2 128 0 = 0 ∧ zSame w w2) ∨
  (zCall 60 true x (.ref 0 :: as) u fun v w => zSame u w ∧ zCall 60 false m (.ref 128 :: as) w fun _ w2 => zSame w w2 ∧ ∃ E c, v = some (.int E) ∧ (E, c) ∈ codes ∧ w2 128 0 = c)
theorem zAskI.ok {x m : Nat} {as : List Value} {codes : List (Int32 × Int32)} (h : zAskI x m as codes) : zOkT x m as codes := fun u ⟨n, hI⟩ =>
  (h u n hI).imp
    (fun z => zCall_m 60 false _ _ _ _ _ (fun v w z o => zCall_m 60 false _ _ _ _ _ (fun v2 w2 z2 => ⟨z2.1, z2.2.1, n, (z.1.tr z2.2.2).inv hI⟩) (z.2 o)) z)
    (fun z => zCall_m 60 true _ _ _ _ _ (fun v w z => zCall_m 60 false _ _ _ _ _ (fun v2 w2 z2 => ⟨⟨n, (z.1.tr z2.1).inv hI⟩, z2.2⟩) z.2) z)
def zAskA (x m : Nat) (as : List Value) : Prop := ∀ u n, zInv u n → zCall 60 false x (.ref 0 :: as) u fun v w => zSame u w ∧ zCall 60 false m (.ref 128 :: as) w fun v2 w2 => v2 = v ∧ zSame w w2
theorem zAskA.ok {x m : Nat} {as : List Value} (h : zAskA x m as) : zOkA x m as := fun u ⟨n, hI⟩ =>
  zCall_m 60 false _ _ _ _ _ (fun v w z => zCall_m 60 false _ _ _ _ _ (fun v2 w2 z2 => ⟨z2.1, n, (z.1.tr z2.2).inv hI⟩) z.2) (h u n hI)
