/-- the class's table, the sets below k -/
def zTb (u : zM) (W : Nat → Int32) (n k : Nat) : Prop := ∀ set start, set < k → ((start < n ∧ set.testBit start = false) ∨ start = 8) → u 122 (set * 9 + start) = nI (trDv W n set (cnO W start))
theorem zTb.tt {u : zM} {W : Nat → Int32} {n : Nat} : zTb u W n (2 ^ n) ↔ zTrT u n W := Iff.rfl
theorem s_measureT {d n : Nat} {u : zM} {Q : Option Value → zM → Prop} (hI : zInv u n) (h : ∀ w, (∀ c, c ≠ 121 → c ≠ 122 → w c = u c) → zInv w n → zTb w (u 129) n (2 ^ n) → Q none w) : zCall (d + 5) false 98 [.ref 121, .ref 3] u Q := by
  have U := hI.tu
  obtain ⟨hR, hu, hV, hS⟩ := hI.tu
  have h8 := hR.1.1
  have p2 := p2_le h8
  obtain ⟨W, eW⟩ : ∃ W, W = u 129 := ⟨_, rfl⟩
  rw [← eW] at U h
  have hK := hI.2.2.2.2.2
  unfold zTrK at hK
  rw [← eW] at hK
  refine tX9_measure (k0 := 121) (k1 := 3) rfl rfl ⟨fun q => ?_, fun q => ?_⟩
  · rw [show (3 + 1 : Nat) = 4 from rfl, hu, sl_n n h8]
    refine zFor (σ := zM) (Pr := fun i m => zRun (d + 4) false zcX9_measure 0 Q 20 [(0, .ref 121), (1, .ref 3), (2, .int (nI (2 ^ n))), (3, .int (nI i))] [] m) (fun i m => (∀ c, c ≠ 122 → m c = u c) ∧ zTb m W n i) (2 ^ n) (fun m hm => ?_) (fun set m hset hm ih => ?_) u ⟨fun _ _ => rfl, fun set start hh _ => absurd hh (Nat.not_lt_zero _)⟩
    · refine tX9_measure_20 (k0 := 121) (k1 := 3) rfl rfl (br_t (Int32.le_refl _) ?_)
      have T : zTb (zUp m 121 1 1) W n (2 ^ n) := fun set start a b => by rw [zUp_k _ _ (by decide)]; exact hm.2 set start a b
      refine h _ (fun c a b => (zUp_k _ _ a).trans (hm.1 c b)) ?_ T
      obtain ⟨c, l, t, p, i, k⟩ := hI
      have f : ∀ x, x ≠ 121 → x ≠ 122 → (zUp m 121 1 1) x = u x := fun x a b => (zUp_k _ _ a).trans (hm.1 x b)
      have e9 : (zUp m 121 1 1) 129 = u 129 := f 129 (by decide) (by decide)
      refine ⟨⟨by rw [e9]; exact c.1, fun a b ha hb => ?_, ?_, ?_⟩, ?_, ?_, ?_, ?_, Or.inr ⟨zUp_at _ _ _ _, ?_⟩, by rw [f 124 (by decide) (by decide)]; exact k.2⟩
      · rw [f 134 (by decide) (by decide), e9]; exact c.2.1 a b ha hb
      · rw [e9]; exact c.2.2.1.congr (fun x a b => f x (by omega) (by omega))
      · rw [e9]; exact c.2.2.2.congr (f 10 (by decide) (by decide)) (f 11 (by decide) (by decide))
      · rw [e9]; exact l.congr (by rw [f 12 (by decide) (by decide)]) (fun x a b => f x (by omega) (by omega))
      · exact t.congr (by rw [f 1 (by decide) (by decide)]) (by rw [f 1 (by decide) (by decide)]) (f 2 (by decide) (by decide)) (f 135 (by decide) (by decide)) (by rw [f 128 (by decide) (by decide)]) (by rw [f 128 (by decide) (by decide)])
      · exact p.congr (by rw [f 0 (by decide) (by decide)]) (by rw [f 0 (by decide) (by decide)]) (by rw [f 128 (by decide) (by decide)]) (f 133 (by decide) (by decide)) e9 (fun x a b => f x (by omega) (by omega))
      · exact i.congr (by rw [f 0 (by decide) (by decide)]) (by rw [f 128 (by decide) (by decide)]) (f 130 (by decide) (by decide)) (fun x a b => f x (by omega) (by omega))
      · rw [e9, ← eW]; exact zTb.tt.mp T
    · obtain ⟨f, T⟩ := hm
      have h256 : set < 256 := by omega
      refine tX9_measure_20 (k0 := 121) (k1 := 3) rfl rfl (br_f (by rw [nI_leI (by omega) (by omega)]; omega) (br_f (by rw [nI_lit, nI_leI (by omega) (by omega)]; omega) ?_))
      refine zFor (σ := zM) (Pr := fun s m => zRun (d + 4) false zcX9_measure 0 Q 35 [(0, .ref 121), (1, .ref 3), (2, .int (nI (2 ^ n))), (3, .int (nI set)), (4, .int (nI s))] [] m) (fun s m => (∀ c, c ≠ 122 → m c = u c) ∧ zTb m W n set ∧ ∀ start, start < s → ((start < n ∧ set.testBit start = false) ∨ start = 8) → m 122 (set * 9 + start) = nI (trDv W n set (cnO W start))) 9 (fun m hm => ?_) (fun s m hs hm ih2 => ?_) m ⟨f, T, fun start hh _ => absurd hh (Nat.not_lt_zero _)⟩
      · obtain ⟨f, T, R⟩ := hm
        refine tX9_measure_35 (k0 := 121) (k1 := 3) rfl rfl (br_t (by decide) ?_)
        rw [nI_1 set]
        refine ih m ⟨f, fun st start a b => ?_⟩
        by_cases z : st = set
        · subst z; exact R start (by omega) b
        · exact T st start (by omega) b
      · obtain ⟨f, T, R⟩ := hm
        have e2 : nI set * 9 + nI s = nI (set * 9 + s) := by rw [nI_lit, nI_mul, nI_add]
        have v : vp_in (nI (set * 9 + s)) 2304 := vp_in_nI (by omega) (by decide)
        refine tX9_measure_35 (k0 := 121) (k1 := 3) rfl rfl (br_f (by rw [nI_lit, nI_leI (by omega) (by omega)]; omega) ?_)
        rw [bit_at set h256 s hs, e2, nI_clamp (n := set * 9 + s) (by omega), nI_1 s, show (121 + 1 : Nat) = 122 from rfl]
        have nxt : ∀ x : Int32, (((s < n ∧ set.testBit s = false) ∨ s = 8) → x = nI (trDv W n set (cnO W s))) → zRun (d + 4) false zcX9_measure 0 Q 35 [(0, .ref 121), (1, .ref 3), (2, .int (nI (2 ^ n))), (3, .int (nI set)), (4, .int (nI (s + 1)))] [] (zUp m 122 (set * 9 + s) x) := fun x hx => by
          refine ih2 _ ⟨fun c a => (zUp_k _ _ a).trans (f c a), fun st start a b => ?_, fun start a b => ?_⟩
          · rw [zUp_j _ _ (by omega)]; exact T st start a b
          · by_cases z : start = s
            · subst z
              rw [zUp_at]; exact hx b
            · rw [zUp_j _ _ (by omega)]; exact R start (by omega) b
        cases b : set.testBit s
        · refine ⟨fun _ => ?_, fun z => absurd rfl z⟩
          refine s_leastFrom (W := W) (U.congr (fun c a b => f c b)) h256 hs (fun t ht hb => ?_) ⟨_, rfl, v, nxt _ (fun _ => rfl)⟩
          have lt := bit_lt hb
          have := T (set - 2 ^ t) t lt (Or.inl ⟨ht, bit_off set h256 t (by omega) hb⟩)
          rw [this]
          unfold cnO
          rw [if_neg (by omega)]
        · refine ⟨fun z => absurd z (by decide), fun _ => ⟨v, nxt _ (fun z => ?_)⟩⟩
          rcases z with z | z
          · rw [b] at z; exact absurd z.2 (by decide)
          · subst z
            rw [bit_8 set h256] at b
            exact absurd b (by decide)
  · rcases hK.1 with k | ⟨k1, k2⟩
    · exact absurd k q
    · exact h u (fun _ _ _ => rfl) hI (zTb.tt.mpr k2)
/-! the first of the orders -/
def ffV (p : Nat → Bool) : Nat → Nat → Nat
  | 0, _ => 0
  | r + 1, i => if p i = true then i else ffV p r (i + 1)
theorem ff_spec {p : Nat → Bool} : ∀ r i, (∃ s, i ≤ s ∧ s < i + r ∧ p s = true) → p (ffV p r i) = true ∧ ffV p r i < i + r
  | 0, _, ⟨s, h1, h2, _⟩ => absurd h2 (by omega)
  | r + 1, i, ⟨s, h1, h2, h3⟩ => by
    by_cases q : p i = true
    · have e : ffV p (r + 1) i = i := if_pos q
      rw [e]; exact ⟨q, by omega⟩
    · have e : ffV p (r + 1) i = ffV p r (i + 1) := if_neg q
      have ne : s ≠ i := fun z => q (by rw [← z]; exact h3)
      have := ff_spec (p := p) r (i + 1) ⟨s, by omega, by omega, h3⟩
      rw [e]; exact ⟨this.1, by omega⟩
def pDv (W : Nat → Int32) (n set c s : Nat) : Bool := set.testBit s && decide (min 1000 (zFar W c (cnN W s)) + trDv W n (set - 2 ^ s) (cnN W s) = trDv W n set c)
theorem s_firstStep {d n set start : Nat} {W : Nat → Int32} {u : zM} {Q : Option Value → zM → Prop} (hU : zTu u W n) (hT : zTb u W n (2 ^ n)) (h2 : set < 2 ^ n) (hs : (start < n ∧ set.testBit start = false) ∨ start = 8)
    (h : Q (some (.int (nI (ffV (pDv W n set (cnO W start)) n 0)))) u) : zCall (d + 4) false 102 [.ref 121, .ref 3, .int (nI set), .int (nI start)] u Q := by
  have hU' := hU
  obtain ⟨hR, hu, hV, hS⟩ := hU'
  have h8 := hR.1.1
  have p2 := p2_le h8
  have h256 : set < 256 := by omega
  have c12 := cnO_lt W start
  have dl := trDv_le (W := W) (n := n) (set := set) (c := cnO W start)
  have own := hT set start h2 hs
  have e9 : nI set * 9 + nI start = nI (set * 9 + start) := by rw [nI_lit, nI_mul, nI_add]
  have loop : zRun (d + 3) false zcX9_firstStep 1 Q 10 [(0, .ref 121), (1, .ref 3), (2, .int (nI set)), (3, .int (nI start)), (4, .int (nI (cnO W start))), (5, .int (nI 0))] [] u := by
    have go : ∀ r i, i + r = n → Q (some (.int (nI (ffV (pDv W n set (cnO W start)) r i)))) u → zRun (d + 3) false zcX9_firstStep 1 Q 10 [(0, .ref 121), (1, .ref 3), (2, .int (nI set)), (3, .int (nI start)), (4, .int (nI (cnO W start))), (5, .int (nI i))] [] u := by
      intro r
      induction r with
      | zero =>
        intro i hi hq
        exact t2X9_firstStep_10 (k0 := 121) (k1 := 3) rfl rfl (br_t (by rw [show (3 + 1 : Nat) = 4 from rfl, hu, nI_leI (by omega) (by omega)]; omega) hq)
      | succ r ih =>
        intro i hi hq
        refine t2X9_firstStep_10 (k0 := 121) (k1 := 3) rfl rfl (br_f (by rw [show (3 + 1 : Nat) = 4 from rfl, hu, nI_leI (by omega) (by omega)]; omega) ?_)
        rw [bit_at set h256 i (by omega), nI_1 i]
        have l : ffV (pDv W n set (cnO W start)) (r + 1) i = if pDv W n set (cnO W start) i = true then i else ffV (pDv W n set (cnO W start)) r (i + 1) := rfl
        rw [l] at hq
        have pe : pDv W n set (cnO W start) i = (set.testBit i && decide (min 1000 (zFar W (cnO W start) (cnN W i)) + trDv W n (set - 2 ^ i) (cnN W i) = trDv W n set (cnO W start))) := rfl
        cases b : set.testBit i
        · refine ⟨fun _ => ih (i + 1) (by omega) ?_, fun z => absurd rfl z⟩
          rw [if_neg (by rw [pe, b]; simp)] at hq
          exact hq
        · refine ⟨fun z => absurd z (by decide), fun _ => ?_⟩
          have lt := bit_lt b
          have d2 := trDv_le (W := W) (n := n) (set := set - 2 ^ i) (c := cnN W i)
          have en := hT (set - 2 ^ i) i (by omega) (Or.inl ⟨by omega, bit_off set h256 i (by omega) b⟩)
          have ce : cnO W i = cnN W i := if_neg (by omega)
          rw [ce] at en
          refine s_wayBy (W := W) (D := trDv W n (set - 2 ^ i) (cnN W i)) hU h256 c12 (by omega) b d2 en ⟨_, rfl, vp_in_nI (by omega) (by decide), vp_in_nI (by omega) (by decide), ?_⟩
          rw [show (121 + 1 : Nat) = 122 from rfl, e9, nI_clamp (n := set * 9 + start) (by omega)]
          rw [own]
          refine ⟨fun q => ih (i + 1) (by omega) ?_, fun q => ?_⟩
          · rw [if_neg (fun z => ?_)] at hq
            · exact hq
            · rw [pe, b, Bool.true_and] at z
              exact q (by rw [of_decide_eq_true z])
          · rw [nI_eq (by omega) (by omega)] at q
            rw [if_pos (by rw [pe, b, Bool.true_and]; exact decide_eq_true q)] at hq
            exact hq
    exact go n 0 (by omega) h
  refine t2X9_firstStep (k0 := 121) (k1 := 3) rfl rfl ?_
  simp only [Nat.reduceAdd]
  by_cases q8 : start = 8
  · have e8 : cnO W start = 0 := if_pos q8
    rw [e8] at loop
    subst q8
    exact ⟨fun z => absurd rfl z, fun _ => loop⟩
  · have e8 : cnO W start = cnN W start := if_neg q8
    rw [e8] at loop
    have c0 : ((0 : Int32) * 8) + nI start = nI (0 * 8 + start) := dv_ix 0 start
    rw [c0, nI_clamp (n := 0 * 8 + start) (by omega), hV start (by omega)]
    exact ⟨fun _ => ⟨vp_in_nI (by omega) (by decide), loop⟩, fun z => absurd z (nI_ne (a := start) (b := 8) (by omega) (by decide) q8)⟩
