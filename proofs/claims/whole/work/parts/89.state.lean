/-! THE STATE between two calls: what holds of the memory -/
def zTp (u : zM) : Prop := (∃ L, L ≤ 400 ∧ u 1 1 = nI L ∧ u 128 10 = nI L ∧ ∀ i, i < L → ∃ b, b < 256 ∧ u 2 i = nI b ∧ u 135 i = (nI b).toInt8.toInt32) ∧ u 1 2 = u 128 15
def zBase (W R : Nat → Int32) : Prop := (∀ k, 11 ≤ k → k < 155 → R k = W k) ∧ R 2 = W 2 ∧ R 0 = W 0 ∧ ∀ s, s < 8 → R (163 + 9 * s) = W (163 + 9 * s)
def zAct (u : zM) (j : Nat) : Nat → Int32 := fun k => u 133 (475 * j + k)
def zPast (u : zM) (n : Nat) : Prop := ∃ A N, A ≤ 12 ∧ N < 12 ∧ u 0 7 = nI A ∧ u 128 7 = nI A ∧ u 0 6 = nI N ∧ ∀ j, j < A → zRg (zAct u j) n ∧ zDy u (61 + 5 * ((N + 12 - A + j) % 12)) (zAct u j) ∧ zBase (u 129) (zAct u j)
def zIm (u : zM) : Prop := ∃ f, f ≤ 1 ∧ u 0 4 = nI f ∧ u 128 6 = nI f ∧ (f = 1 → ∃ m, zRg (u 130) m ∧ zSb u 41 (u 130) ∧ zLg u 45 (u 130))
/-- the least way by all of a set and home, capped at C -/
def trMin (C : Nat) (p : Nat → Bool) (f : Nat → Nat) : Nat → Nat
  | 0 => C
  | s + 1 => if p s = true then min (trMin C p f s) (f s) else trMin C p f s
def trG (F : Nat → Nat → Nat) (cn : Nat → Nat) (C n : Nat) : Nat → Nat → Nat → Nat
  | 0, _, c => F c 0
  | k + 1, set, c => if set = 0 then F c 0 else trMin C (fun s => set.testBit s) (fun s => F c (cn s) + trG F cn C n k (set - 2 ^ s) (cn s)) n
def trR (F : Nat → Nat → Nat) (cn : Nat → Nat) (C n set c : Nat) : Nat := trG F cn C n (set + 1) set c
def zTrT (u : zM) (n : Nat) (W : Nat → Int32) : Prop := ∀ set start, set < 2 ^ n → ((start < n ∧ set.testBit start = false) ∨ start = 8) → u 122 (set * 9 + start) = nI (trR (fun a b => min 1000 (zFar W a b)) (cnN W) 1000 n set (if start = 8 then 0 else cnN W start))
def zTrK (u : zM) (n : Nat) : Prop := (u 121 1 = 0 ∨ (u 121 1 = 1 ∧ zTrT u n (u 129))) ∧ u 124 0 = 0
def zInv (u : zM) (n : Nat) : Prop := zCore u n ∧ lwRel u 12 (u 129) ∧ zTp u ∧ zPast u n ∧ zIm u ∧ zTrK u n
def zIv (u : zM) : Prop := ∃ n, zInv u n
theorem zAct.congr {u w : zM} (h : w 133 = u 133) (j : Nat) : zAct w j = zAct u j := by unfold zAct; rw [h]
theorem zPast.congr {u w : zM} {n : Nat} (h0 : w 0 7 = u 0 7) (h1 : w 0 6 = u 0 6) (h2 : w 128 7 = u 128 7) (h3 : w 133 = u 133) (h4 : w 129 = u 129) (h : ∀ c, 61 ≤ c → c ≤ 120 → w c = u c) (hP : zPast u n) : zPast w n := by
  obtain ⟨A, N, hA, hN, a1, a2, a3, a4⟩ := hP
  refine ⟨A, N, hA, hN, by rw [h0]; exact a1, by rw [h2]; exact a2, by rw [h1]; exact a3, fun j hj => ?_⟩
  obtain ⟨b1, b2, b3⟩ := a4 j hj
  have hm : (N + 12 - A + j) % 12 < 12 := Nat.mod_lt _ (by decide)
  rw [zAct.congr h3, h4]
  exact ⟨b1, b2.congr (fun c x y => h c (by omega) (by omega)), b3⟩
theorem zIm.congr {u w : zM} (h0 : w 0 4 = u 0 4) (h1 : w 128 6 = u 128 6) (h2 : w 130 = u 130) (h : ∀ c, 42 ≤ c → c ≤ 55 → w c = u c) (hI : zIm u) : zIm w := by
  obtain ⟨f, hf, a1, a2, a3⟩ := hI
  refine ⟨f, hf, by rw [h0]; exact a1, by rw [h1]; exact a2, fun q => ?_⟩
  obtain ⟨m, b1, b2, b3⟩ := a3 q
  refine ⟨m, by rw [h2]; exact b1, ?_, ?_⟩
  · rw [h2]
    exact b2.congr (fun c x y => h c (by omega) (by omega)) (fun c x y => h c (by omega) (by omega)) (by rw [h 50 (by omega) (by omega)]) (fun c x y => h c (by omega) (by omega))
  · rw [h2]
    exact b3.congr (h 45 (by omega) (by omega)) (h 46 (by omega) (by omega))
theorem zTp.congr {u w : zM} (h0 : w 1 1 = u 1 1) (h1 : w 1 2 = u 1 2) (h2 : w 2 = u 2) (h3 : w 135 = u 135) (h4 : w 128 10 = u 128 10) (h5 : w 128 15 = u 128 15) (h : zTp u) : zTp w := by
  unfold zTp
  rw [h0, h1, h2, h3, h4, h5]
  exact h
theorem zSame.inv {u w : zM} {n : Nat} (h : zSame u w) (hI : zInv u n) : zInv w n := by
  obtain ⟨c, l, t, p, i, k⟩ := hI
  have g : ∀ x, zCare x = true → w x = u x := h.1
  have e9 := g 129 (by decide)
  refine ⟨h.core c, ?_, ?_, ?_, ?_, ?_⟩
  · rw [e9]; exact l.congr (by rw [g 12 (by decide)]) (fun x a b => g x (by simp only [zCare, Bool.or_eq_true, Bool.and_eq_true, decide_eq_true_eq, beq_iff_eq]; omega))
  · exact t.congr h.2.2.1 h.2.2.2 (g 2 (by decide)) (g 135 (by decide)) h.2.1.2.2.1 h.2.1.2.2.2
  · exact p.congr (by rw [g 0 (by decide)]) (by rw [g 0 (by decide)]) h.2.1.2.1 (g 133 (by decide)) e9 (fun x a b => g x (by simp only [zCare, Bool.or_eq_true, Bool.and_eq_true, decide_eq_true_eq, beq_iff_eq]; omega))
  · exact i.congr (by rw [g 0 (by decide)]) h.2.1.1 (g 130 (by decide)) (fun x a b => g x (by simp only [zCare, Bool.or_eq_true, Bool.and_eq_true, decide_eq_true_eq, beq_iff_eq]; omega))
  · unfold zTrK zTrT
    rw [g 121 (by decide), g 122 (by decide), g 124 (by decide), e9]
    exact k
/-- a pair of calls that answer alike and leave a state -/
def zOkA (x m : Nat) (as : List Value) : Prop := ∀ u, zIv u → zCall 60 false x (.ref 0 :: as) u fun v w => zCall 60 false m (.ref 128 :: as) w fun v2 w2 => v2 = v ∧ zIv w2
def zOkT (x m : Nat) (as : List Value) (codes : List (Int32 × Int32)) : Prop := ∀ u, zIv u →
  (zCall 60 false x (.ref 0 :: as) u fun v w => ∀ o : Int32, zCall 60 false m (.ref 128 :: as) (zUp w 142 0 o) fun v2 w2 => v2 = v ∧ w2 128 0 = 0 ∧ zIv w2) ∨
  (zCall 60 true x (.ref 0 :: as) u fun v w => zCall 60 false m (.ref 128 :: as) w fun _ w2 => zIv w2 ∧ ∃ E c, v = some (.int E) ∧ (E, c) ∈ codes ∧ w2 128 0 = c)
theorem zAsk.ok {x m : Nat} {as : List Value} (h : zAsk x m as) : zOkA x m as := fun u ⟨n, hI⟩ =>
  zCall_m 60 false _ _ _ _ _ (fun v w z => zCall_m 60 false _ _ _ _ _ (fun v2 w2 z2 => ⟨z2.1, n, (z.1.tr z2.2).inv hI⟩) z.2) (h u n hI.1)
theorem zAskT.ok {x m : Nat} {as : List Value} {codes : List (Int32 × Int32)} (h : zAskT x m as codes) : zOkT x m as codes := fun u ⟨n, hI⟩ =>
  (h u n hI.1).imp
    (fun z => zCall_m 60 false _ _ _ _ _ (fun v w z o => zCall_m 60 false _ _ _ _ _ (fun v2 w2 z2 => ⟨z2.1, z2.2.1, n, (z.1.tr z2.2.2).inv hI⟩) (z.2 o)) z)
    (fun z => zCall_m 60 true _ _ _ _ _ (fun v w z => zCall_m 60 false _ _ _ _ _ (fun v2 w2 z2 => ⟨⟨n, (z.1.tr z2.1).inv hI⟩, z2.2⟩) z.2) z)
theorem zAskP.ok {P : zM → Prop} {x m : Nat} {as : List Value} (hP : ∀ u n, zInv u n → P u) (h : zAskP P x m as) : zOkA x m as := fun u ⟨n, hI⟩ =>
  zCall_m 60 false _ _ _ _ _ (fun v w z => zCall_m 60 false _ _ _ _ _ (fun v2 w2 z2 => ⟨z2.1, n, (z.1.tr z2.2).inv hI⟩) z.2) (h u n hI.1 (hP u n hI))
theorem zInv.cnt {u : zM} {n : Nat} (hI : zInv u n) : zCnt u := by
  obtain ⟨c, l, -, ⟨A, N, -, -, a1, a2, -⟩, -, -⟩ := hI
  refine ⟨?_, a1.trans a2.symm⟩
  by_cases q : u 129 2 = 1
  · obtain ⟨L, S, ok, r6, -⟩ := l.2 q
    rw [if_pos q, r6]; exact ok.2.2.1.symm
  · rw [if_neg q]; exact l.1 q
