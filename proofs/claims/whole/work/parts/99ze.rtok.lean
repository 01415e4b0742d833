/-! the reference's things of a text -/
def rkA (u : zM) (B : Nat → Nat) (L a : Nat) : Prop := ∃ p, zRtx u B L p ∧ skB B L p = a
def rkF (u w : zM) : Prop := (∀ c, c ≠ 128 → w c = u c) ∧ ∀ j, j ≠ 11 → j ≠ 13 → w 128 j = u 128 j
theorem rkF.rf (u : zM) : rkF u u := ⟨fun _ _ => rfl, fun _ _ _ => rfl⟩
theorem rkF.tr {u v w : zM} (h1 : rkF u v) (h2 : rkF v w) : rkF u w := ⟨fun c a => (h2.1 c a).trans (h1.1 c a), fun j a b => (h2.2 j a b).trans (h1.2 j a b)⟩
theorem rkA.le {u : zM} {B : Nat → Nat} {L a : Nat} (h : rkA u B L a) : a ≤ L ∧ skB B L a = a ∧ L ≤ 400 := by
  obtain ⟨p, ⟨h4, hp, -⟩, e⟩ := h
  have := skB_le (B := B) hp
  exact ⟨by omega, by rw [← e]; exact skB_idem hp, h4⟩
theorem zRtx.congr {u w : zM} {B : Nat → Nat} {L p : Nat} (h1 : w 128 11 = u 128 11) (h2 : w 128 12 = u 128 12) (h3 : w 135 = u 135) (h : zRtx u B L p) : zRtx w B L p := by
  obtain ⟨a, b, c, d, e⟩ := h
  exact ⟨a, b, h2.trans c, h1.trans d, by rw [h3]; exact e⟩
theorem rkA.congr {u w : zM} {B : Nat → Nat} {L a : Nat} (h1 : w 128 11 = u 128 11) (h2 : w 128 12 = u 128 12) (h3 : w 135 = u 135) (h : rkA u B L a) : rkA w B L a := by
  obtain ⟨p, g, e⟩ := h
  exact ⟨p, g.congr h1 h2 h3, e⟩
/-- a word of letters -/
def zLtw (k : Nat) : Bool := decide (2000 ≤ k ∧ k < 2033) && inB 97 122 ((zTc (k - 2000) 0).toNatClampNeg)
theorem zLtw_s {k : Nat} (h : zLtw k = true) : zStr k := by
  unfold zLtw at h
  rw [Bool.and_eq_true, decide_eq_true_eq] at h
  exact h.1
theorem zTc_b : ∀ i, i < 33 → ∀ j, j < 6 → (decide ((zTxt.getD i []).getD j 0 = nI ((zTxt.getD i []).getD j 0).toNatClampNeg) && decide (((zTxt.getD i []).getD j 0).toNatClampNeg < 128)) = true := by decide +kernel
theorem zTc_c {k i : Nat} (hk : zStr k) (hi : i < 6) : ∃ c, c < 128 ∧ zTc (k - 2000) (nI i) = nI c := by
  have g := zTc_b (k - 2000) (by have := hk.1; have := hk.2; omega) i hi
  rw [Bool.and_eq_true, decide_eq_true_eq, decide_eq_true_eq] at g
  refine ⟨_, g.2, ?_⟩
  show (zTxt.getD (k - 2000) []).getD (nI i).toNatClampNeg 0 = _
  rw [nI_clamp (by omega)]
  exact g.1
/-- a byte of the reference is a sign of a word where the class's is -/
theorem r_byte {b c : Nat} (hb : b < 256) (hc : c < 128) : (nI b).toInt8.toInt32 = nI c ↔ nI b = nI c := by
  rcases s8_ex b hb with ⟨c1, c2⟩ | ⟨c1, c2⟩
  · rw [c2]
  · refine ⟨fun z => ?_, fun z => ?_⟩
    · rw [z] at c2; exact absurd c2 (nI_pos (by omega))
    · rw [nI_eq (by omega) (by omega)] at z; omega
/-- the letters from a on end where the thing at a ends, if it is of letters -/
theorem ltB_te {B : Nat → Nat} {L a : Nat} (h : a < L) (h0 : soB (B a) = 0) : ltB B L a = teB B L a := by
  unfold ltB teB
  rw [if_pos h, if_neg (by omega), h0]
  have e1 : L - a = (L - (a + 1)) + 1 := by omega
  rw [e1]
  show (if inB 97 122 (B a) = true then runB (inB 97 122) B (L - (a + 1)) (a + 1) else a) = _
  rw [if_pos (soB_0.mp h0)]
  refine runB_cong (fun b => ?_) _ _
  cases q : inB 97 122 b
  · exact (beq_eq_false_iff_ne.mpr (fun z => by rw [soB_0.mp z] at q; cases q)).symm
  · rw [soB_0.mpr q]; rfl
theorem ltB_no {B : Nat → Nat} {L a : Nat} (h : ¬ (a < L ∧ soB (B a) = 0)) : ltB B L a = a := by
  unfold ltB
  by_cases q : a < L
  · have e1 : L - a = (L - a - 1) + 1 := by omega
    rw [e1]
    show (if inB 97 122 (B a) = true then runB (inB 97 122) B (L - a - 1) (a + 1) else a) = a
    rw [if_neg (fun z => h ⟨q, soB_0.mpr z⟩)]
  · have e1 : L - a = 0 := by omega
    rw [e1]; rfl
/-- after letters: the point behind them, the begin ahead of them -/
def rkL (u : zM) (B : Nat → Nat) (L a : Nat) : Prop := zRtx u B L (ltB B L a) ∧ u 128 13 = nI a ∧ a ≤ L
theorem weB_1 {B : Nat → Nat} {k a n : Nat} (h : 1 ≤ n) (e : weB B k a n = true) : nI (B a) = zTc (k - 2000) 0 := by
  have g : weB B k a 1 = true := by
    cases q : weB B k a 1
    · rw [weB_f q n h] at e; cases e
    · rfl
  have g : (true && decide (nI (B (a + 0)) = zTc (k - 2000) (nI 0))) = true := g
  rw [Bool.true_and, decide_eq_true_eq] at g
  exact g
theorem isW_l {B : Nat → Nat} {L k a : Nat} (hk : zLtw k = true) (ha : a ≤ L) (hB : ∀ i, i < L → B i < 256) : isW B L k a = (decide (ltB B L a = a + zTn (k - 2000)) && weB B k a (zTn (k - 2000))) := by
  have hs := zLtw_s hk
  have z8 := zTn_b (k - 2000) (by have := hs.1; have := hs.2; omega)
  unfold isW
  by_cases q : a < L ∧ soB (B a) = 0
  · rw [ltB_te q.1 q.2]
  · rw [ltB_no q, decide_eq_false (p := a = a + zTn (k - 2000)) (by omega), Bool.false_and]
    cases c : decide (teB B L a = a + zTn (k - 2000))
    · rfl
    · rw [Bool.true_and]
      cases e : weB B k a (zTn (k - 2000))
      · rfl
      · exfalso
        have f := weB_1 z8.1 e
        have c := of_decide_eq_true c
        have t := teB_le (B := B) ha
        have al : a < L := by omega
        refine q ⟨al, soB_0.mpr ?_⟩
        unfold zLtw at hk
        rw [Bool.and_eq_true, ← f, nI_clamp (by have := hB a al; omega)] at hk
        exact hk.2
theorem isW_te {B : Nat → Nat} {L k a : Nat} (hk : zLtw k = true) (ha : a ≤ L) (hB : ∀ i, i < L → B i < 256) (h : isW B L k a = true) : ltB B L a = teB B L a := by
  have g := h
  rw [isW_l hk ha hB, Bool.and_eq_true, decide_eq_true_eq] at g
  unfold isW at h
  rw [Bool.and_eq_true, decide_eq_true_eq] at h
  rw [g.1, h.1]
theorem r_isWord {d k L a : Nat} {B : Nat → Nat} {u : zM} {Q : Option Value → zM → Prop} (hk : zLtw k = true) (hU : rkL u B L a) (h : Q (some (.int (i01 (isW B L k a)))) u) : zCall (d + 1) false 206 [.ref 128, .ref k] u Q := by
  have hs := zLtw_s hk
  have z8 := zTn_b (k - 2000) (by have := hs.1; have := hs.2; omega)
  obtain ⟨⟨h4, hp, u12, u11, hB⟩, u13, ha⟩ := hU
  rw [isW_l hk ha (fun i hi => (hB i hi).1)] at h
  obtain ⟨N, hN⟩ : ∃ N, N = zTn (k - 2000) := ⟨_, rfl⟩
  have hT : zTl (k - 2000) = nI N := by rw [hN]; rfl
  rw [← hN] at h z8
  have t := ltB_le (B := B) ha
  refine tX12_isWord ⟨hs, ?_⟩
  have e : u 128 11 - u 128 13 = nI (ltB B L a - a) := by rw [u11, u13, nI_sub t.1]
  rw [e, hT, nI_eq (by omega) (by omega)]
  have off : ∀ i, Q (some (.int 0)) u → zRun d false zcX12_isWord 2 Q 24 [(0, .ref 128), (1, .ref k), (2, .int 0), (3, .int (nI i))] [] u := fun i q => tX12_isWord_24 (br_t rfl ⟨Or.inl rfl, q⟩)
  refine ⟨fun z => off 0 ?_, fun z => ?_⟩
  · rw [decide_eq_false (by omega), Bool.false_and] at h; exact h
  · rw [decide_eq_true (by omega), Bool.true_and] at h
    have go : ∀ r i, i + r = N → weB B k a i = true → zRun d false zcX12_isWord 2 Q 24 [(0, .ref 128), (1, .ref k), (2, .int 1), (3, .int (nI i))] [] u := by
      intro r
      induction r with
      | zero =>
        intro i hi ei
        have e0 : i = N := by omega
        subst e0
        rw [ei] at h
        refine tX12_isWord_24 (br_f (by decide) ⟨hs, fun _ => ⟨Or.inr rfl, h⟩, fun z2 => absurd ?_ z2⟩)
        rw [hT, nI_leI (by omega) (by omega)]; omega
      | succ r ih =>
        intro i hi ei
        refine tX12_isWord_24 (br_f (by decide) ⟨hs, fun z2 => ?_, fun _ => ?_⟩)
        · rw [hT, nI_leI (by omega) (by omega)] at z2; omega
        · rw [u13, nI_add, nI_clamp (n := a + i) (by omega)]
          refine ⟨vp_in_nI (by omega) (by decide), hs, vp_in_nI (by omega) (by omega), ?_⟩
          obtain ⟨b1, b2⟩ := hB (a + i) (by omega)
          obtain ⟨c, hc, ec⟩ := zTc_c (i := i) hs (by omega)
          rw [b2, ec, r_byte b1 hc, nI_1 i]
          refine ⟨fun z2 => off (i + 1) ?_, fun z2 => ih (i + 1) (by omega) ?_⟩
          · have f : weB B k a (i + 1) = false := by
              show (weB B k a i && decide _) = false
              rw [decide_eq_false (by rw [ec]; exact z2), Bool.and_false]
            rw [weB_f f N (by omega)] at h; exact h
          · show (weB B k a i && decide _) = true
            rw [ei, decide_eq_true (by rw [ec]; exact z2)]; rfl
    exact go N 0 (by omega) rfl
theorem r_letters {d L a : Nat} {B : Nat → Nat} {u : zM} {Q : Option Value → zM → Prop} (hU : rkA u B L a) (h : ∀ w, rkF u w → rkL w B L a → Q none w) : zCall (d + 3) false 205 [.ref 128] u Q := by
  have ha := hU.le.1
  obtain ⟨p, g, e⟩ := hU
  refine s_letters g (fun w f1 f2 w13 t => h w ⟨f1, f2⟩ ?_)
  rw [e] at w13 t
  exact ⟨t, w13, ha⟩
/-- behind the letters of a word that stands there: at the next thing -/
theorem rkL.nx {u : zM} {B : Nat → Nat} {L k a : Nat} (hk : zLtw k = true) (hU : rkL u B L a) (h : isW B L k a = true) : rkA u B L (nxB B L a) :=
  ⟨ltB B L a, hU.1, by rw [isW_te hk hU.2.2 (fun i hi => (hU.1.2.2.2.2 i hi).1) h]; rfl⟩
/-- does a word stand next -/
theorem r_passes {d k L a : Nat} {B : Nat → Nat} {u : zM} {Q : Option Value → zM → Prop} (hk : zLtw k = true) (hU : rkA u B L a)
    (h : ∀ w, rkF u w → w 128 13 = nI a → rkA w B L (if isW B L k a = true then nxB B L a else a) → Q (some (.int (i01 (isW B L k a)))) w) : zCall (d + 4) false 207 [.ref 128, .ref k] u Q := by
  have ha := hU.le
  refine tX12_passes ?_
  refine r_letters hU (fun w f l => ⟨rfl, ?_⟩)
  refine r_isWord hk l ⟨_, rfl, ?_⟩
  cases q : isW B L k a
  · rw [q, if_neg (by decide)] at h
    refine ⟨fun _ => ?_, fun z => absurd rfl z⟩
    rw [l.2.1]
    refine h _ (f.tr ⟨fun c x => zUp_k _ _ x, fun j x _ => zUp_j _ _ x⟩) ((zUp_j _ _ (by decide)).trans l.2.1) ⟨a, ?_, ha.2.1⟩
    obtain ⟨⟨h4, hp, u12, u11, hB⟩, u13, -⟩ := l
    exact ⟨h4, ha.1, (zUp_j _ _ (by decide)).trans u12, zUp_at _ _ _ _, by rw [zUp_k _ _ (by decide)]; exact hB⟩
  · rw [q, if_pos rfl] at h
    exact ⟨fun z => absurd z (by decide), fun _ => h w f l.2.1 (l.nx hk q)⟩
/-- a sign: of one byte that is neither letter nor figure -/
theorem isW_s {B : Nat → Nat} {L k a c : Nat} (h1 : zTn (k - 2000) = 1) (h2 : zTc (k - 2000) 0 = nI c) (hc : c < 128) (h3 : soB c = 2) (ha : a ≤ L) (hB : ∀ i, i < L → B i < 256) : isW B L k a = (decide (a < L) && inB c c (B a)) := by
  unfold isW
  rw [h1]
  have w : weB B k a 1 = decide (nI (B a) = nI c) := by
    show (true && decide (nI (B (a + 0)) = zTc (k - 2000) (nI 0))) = _
    rw [Bool.true_and, show nI 0 = 0 from rfl, h2]; rfl
  rw [w]
  by_cases q : a < L
  · have b := hB a q
    rw [decide_eq_true q, Bool.true_and]
    by_cases z : B a = c
    · have e : inB c c (B a) = true := decide_eq_true (by omega)
      have te : teB B L a = a + 1 := by unfold teB; rw [if_pos q, z, if_pos h3]
      rw [e, te, decide_eq_true (rfl : a + 1 = a + 1), z, decide_eq_true (rfl : nI c = nI c)]; rfl
    · have e : inB c c (B a) = false := decide_eq_false (by omega)
      rw [e, decide_eq_false (fun x => z ((nI_eq (by omega) (by omega)).mp x)), Bool.and_false]
  · have te : teB B L a = a := by unfold teB; rw [if_neg q]
    rw [te, decide_eq_false (by omega), decide_eq_false q, Bool.false_and, Bool.false_and]
theorem r_sign {d k L a c : Nat} {B : Nat → Nat} {a1 : Int32} {u : zM} {Q : Option Value → zM → Prop} (e1 : a1 = nI c) (h1 : zTn (k - 2000) = 1) (h2 : zTc (k - 2000) 0 = nI c) (hc : c < 128) (h3 : soB c = 2) (hU : rkA u B L a)
    (h : ∀ w, rkF u w → w 128 13 = nI a → rkA w B L (if isW B L k a = true then nxB B L a else a) → Q (some (.int (i01 (isW B L k a)))) w) : zCall (d + 4) false 208 [.ref 128, .int a1] u Q := by
  have ha := hU.le
  obtain ⟨p, g, e⟩ := hU
  refine tX12_sign ?_
  refine s_blanks g (fun w f1 f2 w13 t => ⟨rfl, ?_⟩)
  have t : zRtx w B L a := by rw [← e]; exact t
  have w13 : w 128 13 = nI a := by rw [← e]; exact w13
  refine s_isAt (lo := c) (hi := c) e1 e1 hc hc t ⟨_, rfl, ?_⟩
  rw [← isW_s h1 h2 hc h3 ha.1 (fun i hi => (g.2.2.2.2 i hi).1)]
  obtain ⟨h4, hp, u12, u11, hB⟩ := t
  cases q : isW B L k a
  · rw [q, if_neg (by decide)] at h
    exact ⟨fun z => absurd rfl z, fun _ => h w ⟨f1, f2⟩ w13 ⟨a, ⟨h4, hp, u12, u11, hB⟩, ha.2.1⟩⟩
  · have q' := q
    rw [isW_s h1 h2 hc h3 ha.1 (fun i hi => (g.2.2.2.2 i hi).1), Bool.and_eq_true, decide_eq_true_eq] at q'
    have z : B a = c := by have := of_decide_eq_true q'.2; omega
    have te : teB B L a = a + 1 := by unfold teB; rw [if_pos q'.1, z, if_pos h3]
    rw [q, if_pos rfl] at h
    refine ⟨fun _ => ?_, fun z => absurd z (by decide)⟩
    rw [u11, nI_1 a]
    refine h _ (rkF.tr ⟨f1, f2⟩ ⟨fun c x => zUp_k _ _ x, fun j x _ => zUp_j _ _ x⟩) ((zUp_j _ _ (by decide)).trans w13) ⟨a + 1, ⟨h4, by omega, (zUp_j _ _ (by decide)).trans u12, zUp_at _ _ _ _, by rw [zUp_k _ _ (by decide)]; exact hB⟩, ?_⟩
    unfold nxB; rw [te]
/-- figures from a on -/
def dgB (B : Nat → Nat) (L a : Nat) : Nat := runB (inB 48 57) B (L - a) a
theorem soB_1i {b : Nat} : soB b = 1 ↔ inB 48 57 b = true := by
  refine ⟨fun z => decide_eq_true (soB_1 z), fun z => ?_⟩
  have z := of_decide_eq_true z
  exact soB_d z.1 z.2
theorem dgB_te {B : Nat → Nat} {L a : Nat} (h : a < L) (h0 : soB (B a) = 1) : dgB B L a = teB B L a := by
  unfold dgB teB
  rw [if_pos h, if_neg (by omega), h0]
  have e1 : L - a = (L - (a + 1)) + 1 := by omega
  rw [e1]
  show (if inB 48 57 (B a) = true then runB (inB 48 57) B (L - (a + 1)) (a + 1) else a) = _
  rw [if_pos (soB_1i.mp h0)]
  refine runB_cong (fun b => ?_) _ _
  cases q : inB 48 57 b
  · exact (beq_eq_false_iff_ne.mpr (fun z => by rw [soB_1i.mp z] at q; cases q)).symm
  · rw [soB_1i.mpr q]; rfl
theorem dgB_no {B : Nat → Nat} {L a : Nat} (h : ¬ (a < L ∧ soB (B a) = 1)) : dgB B L a = a := by
  unfold dgB
  by_cases q : a < L
  · have e1 : L - a = (L - a - 1) + 1 := by omega
    rw [e1]
    show (if inB 48 57 (B a) = true then runB (inB 48 57) B (L - a - 1) (a + 1) else a) = a
    rw [if_neg (fun z => h ⟨q, soB_1i.mpr z⟩)]
  · have e1 : L - a = 0 := by omega
    rw [e1]; rfl
set_option maxHeartbeats 1000000 in
/-- a number of the reference: what it is, or none -/
theorem r_number {d L a lo hi ex : Nat} {B : Nat → Nat} {a1 a2 : Int32} {u : zM} {Q : Option Value → zM → Prop} (e1 : a1 = nI lo) (e2 : a2 = nI hi) (hl : lo ≤ hi) (hh : hi ≤ 999) (hx : 999 < ex) (hU : rkA u B L a)
    (h1 : ∀ w, rkF u w → w 128 13 = nI a → nuK B L lo hi ex a = true → rkA w B L (nxB B L a) → Q (some (.int (nI (nuV B L a)))) w)
    (h0 : ∀ w, rkF u w → w 128 13 = nI a → nuK B L lo hi ex a = false → Q (some (.int (-1))) w) : zCall (d + 4) false 209 [.ref 128, .int a1, .int a2] u Q := by
  subst e1; subst e2
  have ha := hU.le
  obtain ⟨p, g, e⟩ := hU
  refine tX12_number ?_
  refine s_blanks g (fun w f1 f2 w13 t => ⟨rfl, ?_⟩)
  have t : zRtx w B L a := by rw [← e]; exact t
  have w13 : w 128 13 = nI a := by rw [← e]; exact w13
  have h4 := ha.2.2
  obtain ⟨g, hg⟩ : ∃ g, g = dgB B L a := ⟨_, rfl⟩
  have gb := runB_le (P := inB 48 57) (B := B) (L - a) a
  have gb1 : a ≤ g ∧ g ≤ L := by rw [hg]; unfold dgB; have := ha.1; omega
  have go : ∀ r i (x : zM), i + r = g → a ≤ i → (∀ c, c ≠ 128 → x c = w c) → (∀ j, j ≠ 11 → x 128 j = w 128 j) → zRtx x B L i → zRun (d + 3) false zcX12_number 1 Q 6 [(0, .ref 128), (1, .int (nI lo)), (2, .int (nI hi)), (3, .int (nI (vlB B a (min (i - a) 3))))] [] x := by
    intro r
    induction r with
    | zero =>
      intro i x hig ai fx gx tx
      have ei : i = g := by omega
      have x13 : x 128 13 = nI a := (gx 13 (by decide)).trans w13
      have x11 : x 128 11 = nI g := by rw [tx.2.2.2.1, ei]
      refine tX12_number_6 ?_
      refine s_isAt (lo := 48) (hi := 57) rfl rfl (by decide) (by decide) tx ⟨_, rfl, ?_⟩
      have no : (decide (i < L) && inB 48 57 (B i)) = false := by
        rcases runB_stop (P := inB 48 57) (B := B) (L - a) a with z | z
        · have z : dgB B L a = a + (L - a) := z
          rw [decide_eq_false (by omega), Bool.false_and]
        · have z : inB 48 57 (B (dgB B L a)) = false := z
          rw [ei, hg, z, Bool.and_false]
      rw [no]
      dsimp only
      rw [x11, x13, nI_eq (by omega) (by omega), nI_sub gb1.1]
      refine br_t rfl ?_
      have fr : rkF u x := ⟨fun c h => (fx c h).trans (f1 c h), fun j p q => (gx j p).trans (f2 j p q)⟩
      cases q : nuK B L lo hi ex a
      · have F := h0 x fr x13 q
        refine ⟨fun _ => F, fun z => ⟨fun _ => F, fun z2 => ⟨fun _ => F, fun z3 => ⟨fun z4 => ?_, fun _ => F⟩⟩⟩⟩
        exfalso
        have dg : a < L ∧ soB (B a) = 1 := Decidable.byContradiction fun y => z (by rw [hg]; exact dgB_no y)
        have te : g = teB B L a := by rw [hg]; exact dgB_te dg.1 dg.2
        rw [nI_lit, nI_ltI (by omega) (by omega)] at z2
        have z2 : ¬ 3 < g - a := z2
        have v : vlB B a (min (i - a) 3) = nuV B L a := by
          unfold nuV
          rw [← te, show min (i - a) 3 = g - a by omega]
        have vb := nuV_b dg.1 dg.2 (by omega)
        rw [v, nI_ltI (by omega) (by omega)] at z3
        rw [v, nI_leI (by omega) (by omega)] at z4
        have yes : nuK B L lo hi ex a = true := decide_eq_true ⟨dg.1, dg.2, by omega, by omega, z4, by omega⟩
        rw [q] at yes; cases yes
      · obtain ⟨k1, k2, k3, k4, k5, k6⟩ := of_decide_eq_true q
        have te : g = teB B L a := by rw [hg]; exact dgB_te k1 k2
        have t1 := teB_lt (B := B) k1
        have v : vlB B a (min (i - a) 3) = nuV B L a := by
          unfold nuV
          rw [← te, show min (i - a) 3 = g - a by omega]
        rw [v]
        have vb := nuV_b k1 k2 k3
        refine br_f (by omega) (br_f (by rw [nI_lit, nI_ltI (by omega) (by omega)]; show ¬ 3 < g - a; omega) (br_f (by rw [nI_ltI (by omega) (by omega)]; omega) (br_t (by rw [nI_leI (by omega) (by omega)]; exact k5) (h1 x fr x13 q ⟨i, tx, ?_⟩))))
        rw [ei, te]; rfl
    | succ r ih =>
      intro i x hig ai fx gx tx
      have x13 : x 128 13 = nI a := (gx 13 (by decide)).trans w13
      have tx' := tx
      obtain ⟨-, hp, x12, x11, hB⟩ := tx'
      refine tX12_number_6 ?_
      refine s_isAt (lo := 48) (hi := 57) rfl rfl (by decide) (by decide) tx ⟨_, rfl, ?_⟩
      have dg : inB 48 57 (B i) = true := runB_all (P := inB 48 57) (B := B) (L - a) a i ai (by show i < dgB B L a; omega)
      have dg2 := of_decide_eq_true dg
      rw [decide_eq_true (show i < L by omega), dg]
      dsimp only
      rw [x11, x13, nI_sub ai, nI_1 i]
      have nx : zRtx (zUp x 128 11 (nI (i + 1))) B L (i + 1) := ⟨h4, by omega, (zUp_j _ _ (by decide)).trans x12, zUp_at _ _ _ _, by rw [zUp_k _ _ (by decide)]; exact hB⟩
      have st := ih (i + 1) (zUp x 128 11 (nI (i + 1))) (by omega) (by omega) (fun c h => (zUp_k _ _ h).trans (fx c h)) (fun j h => (zUp_j _ _ h).trans (gx j h)) nx
      refine ⟨fun z => absurd z (by decide), fun _ => ⟨fun z => ?_, fun z => ⟨vp_in_nI (by omega) (by decide), ?_⟩⟩⟩
      · rw [nI_lit, nI_leI (by omega) (by omega)] at z
        have z : 3 ≤ i - a := z
        rw [show min (i + 1 - a) 3 = min (i - a) 3 by omega] at st
        exact st
      · rw [nI_lit, nI_leI (by omega) (by omega)] at z
        have z : ¬ 3 ≤ i - a := z
        obtain ⟨b1, b2⟩ := hB i (by omega)
        have b3 : x 135 i = nI (B i) := by
          rcases s8_ex _ b1 with ⟨c1, c2⟩ | ⟨c1, c2⟩
          · rw [b2, c2]
          · omega
        rw [nI_clamp (n := i) (by omega), b3, nI_lit, nI_lit, nI_mul, nI_add, nI_sub (by show 48 ≤ 10 * vlB B a (min (i - a) 3) + B i; omega)]
        have e2 : min (i + 1 - a) 3 = min (i - a) 3 + 1 := by omega
        have e3 : vlB B a (min (i + 1 - a) 3) = 10 * vlB B a (min (i - a) 3) + B i - 48 := by
          rw [e2]
          show vlB B a (min (i - a) 3) * 10 + B (a + min (i - a) 3) - 48 = _
          rw [show a + min (i - a) 3 = i by omega, Nat.mul_comm]
        rw [e3] at st
        exact st
  have s := go (g - a) a w (by omega) (Nat.le_refl _) (fun _ _ => rfl) (fun _ _ => rfl) t
  rw [Nat.sub_self] at s
  exact s
/-- a number behind a word that must stand there -/
theorem r_after {d k L a lo hi ex : Nat} {B : Nat → Nat} {a2 a3 : Int32} {u : zM} {Q : Option Value → zM → Prop} (hk : zLtw k = true) (e1 : a2 = nI lo) (e2 : a3 = nI hi) (hl : lo ≤ hi) (hh : hi ≤ 999) (hx : 999 < ex) (hU : rkA u B L a)
    (h1 : ∀ w, rkF u w → isW B L k a = true → nuK B L lo hi ex (nxB B L a) = true → rkA w B L (nxB B L (nxB B L a)) → Q (some (.int (nI (nuV B L (nxB B L a))))) w)
    (h0 : ∀ w, rkF u w → isW B L k a = false → w 128 13 = nI a → Q (some (.int (-1))) w)
    (h2 : ∀ w, rkF u w → isW B L k a = true → nuK B L lo hi ex (nxB B L a) = false → w 128 13 = nI (nxB B L a) → Q (some (.int (-1))) w) : zCall (d + 5) false 210 [.ref 128, .ref k, .int a2, .int a3] u Q := by
  refine tX12_after ?_
  refine r_letters hU (fun w f l => ⟨rfl, ?_⟩)
  refine r_isWord hk l ⟨_, rfl, ?_⟩
  cases q : isW B L k a
  · exact ⟨fun _ => h0 w f q l.2.1, fun z => absurd rfl z⟩
  · refine ⟨fun z => absurd z (by decide), fun _ => ?_⟩
    exact r_number e1 e2 hl hh hx (l.nx hk q) (fun w2 f2 b k2 t => ⟨_, rfl, h1 w2 (f.tr f2) q k2 t⟩) (fun w2 f2 b k2 => ⟨_, rfl, h2 w2 (f.tr f2) q k2 b⟩)
/-- a number behind a word that may stand there -/
theorem r_told {d k L a lo hi ex : Nat} {B : Nat → Nat} {a2 a3 a4 : Int32} {u : zM} {Q : Option Value → zM → Prop} (hk : zLtw k = true) (e1 : a2 = nI lo) (e2 : a3 = nI hi) (hl : lo ≤ hi) (hh : hi ≤ 999) (hx : 999 < ex) (hU : rkA u B L a)
    (h1 : ∀ w, rkF u w → isW B L k a = true → nuK B L lo hi ex (nxB B L a) = true → rkA w B L (nxB B L (nxB B L a)) → Q (some (.int (nI (nuV B L (nxB B L a))))) w)
    (h0 : ∀ w, rkF u w → isW B L k a = false → rkA w B L a → Q (some (.int a4)) w)
    (h2 : ∀ w, rkF u w → isW B L k a = true → nuK B L lo hi ex (nxB B L a) = false → w 128 13 = nI (nxB B L a) → Q (some (.int 1000000)) w) : zCall (d + 5) false 211 [.ref 128, .ref k, .int a2, .int a3, .int a4] u Q := by
  refine tX12_told ?_
  refine r_passes hk hU (fun w f b t => ⟨_, rfl, ?_⟩)
  cases q : isW B L k a
  · rw [q, if_neg (by decide)] at t
    exact ⟨fun z => absurd rfl z, fun _ => h0 w f q t⟩
  · rw [q, if_pos rfl] at t
    refine ⟨fun _ => ?_, fun z => absurd z (by decide)⟩
    refine r_number e1 e2 hl hh hx t (fun w2 f2 b2 k2 t2 => ⟨_, rfl, ?_⟩) (fun w2 f2 b2 k2 => ⟨_, rfl, ?_⟩)
    · have vb := of_decide_eq_true k2
      have := nuV_b vb.1 vb.2.1 vb.2.2.1
      exact ⟨fun _ => h1 w2 (f.tr f2) q k2 t2, fun z => absurd (nI_pos' (by omega)) z⟩
    · exact ⟨fun z => absurd z (by decide), fun _ => h2 w2 (f.tr f2) q k2 b2⟩
