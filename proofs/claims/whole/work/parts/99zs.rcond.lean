/-! THE LAW's conditions: the reference -/
def rfC (w : zM) (e : lpE) : Prop := w 128 17 = nI e.1 ∧ ∀ i, i < e.1 → w 129 (1373 + 2 * i) = nI (e.2.1 i) ∧ w 129 (1373 + 2 * i + 1) = nI (e.2.2 i)
def rcP (u : zM) (B : Nat → Nat) (L dp a : Nat) (e : lpE) : Prop := rkA u B L a ∧ rfC u e ∧ u 128 14 = nI dp
def rcF (u w : zM) : Prop := (∀ c, c ≠ 128 → c ≠ 129 → w c = u c) ∧ (∀ j, j ≠ 11 → j ≠ 13 → j ≠ 14 → j ≠ 17 → w 128 j = u 128 j) ∧ ∀ k, k < 1373 → w 129 k = u 129 k
theorem rcF.rf (u : zM) : rcF u u := ⟨fun _ _ _ => rfl, fun _ _ _ _ _ => rfl, fun _ _ => rfl⟩
theorem rcF.tr {u v w : zM} (h1 : rcF u v) (h2 : rcF v w) : rcF u w := ⟨fun c a b => (h2.1 c a b).trans (h1.1 c a b), fun j a b x y => (h2.2.1 j a b x y).trans (h1.2.1 j a b x y), fun k a => (h2.2.2 k a).trans (h1.2.2 k a)⟩
theorem rkF.c {u w : zM} (h : rkF u w) : rcF u w := ⟨fun c a _ => h.1 c a, fun j a b _ _ => h.2 j a b, fun k _ => by rw [h.1 129 (by decide)]⟩
theorem rfC.f {u w : zM} {e : lpE} (h : rfC u e) (f : rkF u w) : rfC w e := by
  unfold rfC
  rw [f.2 17 (by decide) (by decide), f.1 129 (by decide)]
  exact h
theorem rcP.f {u w : zM} {B : Nat → Nat} {L dp a b : Nat} {e : lpE} (h : rcP u B L dp a e) (f : rkF u w) (t : rkA w B L b) : rcP w B L dp b e := ⟨t, h.2.1.f f, (f.2 14 (by decide) (by decide)).trans h.2.2⟩
/-- a code is told -/
theorem r_em {x1 x2 : Int32} {e : lpE} {u : zM} {A : zM → Prop} (h17 : u 128 17 = nI e.1) (he : e.1 < 400) (hA : ∀ w, rcF u w → (∀ j, j ≠ 17 → w 128 j = u 128 j) → w 128 17 = nI (e.1 + 1) → (∀ c v, rfC u e → x1 = nI c → x2 = nI v → rfC w (emE e c v)) → A w) :
    vp_in (1373 + (2 * (u 128 17))) 2173 ∧ (∀ m1 : zM, m1 = zUp u 129 ((1373 + (2 * (u 128 17))).toNatClampNeg) x1 → (vp_in ((1373 + (2 * (m1 128 17))) + 1) 2173 ∧ (∀ m2 : zM, m2 = zUp m1 129 (((1373 + (2 * (m1 128 17))) + 1).toNatClampNeg) x2 → A (zUp m2 128 17 ((m2 128 17) + 1))))) := by
  have e1 : (1373 : Int32) + 2 * nI e.1 = nI (1373 + 2 * e.1) := by rw [show (1373 : Int32) = nI 1373 from rfl, show (2 : Int32) = nI 2 from rfl, nI_mul, nI_add]
  rw [h17, e1, nI_clamp (n := 1373 + 2 * e.1) (by omega)]
  refine ⟨vp_in_nI (by omega) (by decide), fun m1 i1 => ?_⟩
  have m17 : m1 128 17 = nI e.1 := by rw [i1, zUp_kj _ _ (by decide)]; exact h17
  rw [m17, e1, nI_1, nI_clamp (n := 1373 + 2 * e.1 + 1) (by omega)]
  refine ⟨vp_in_nI (by omega) (by decide), fun m2 i2 => ?_⟩
  have m27 : m2 128 17 = nI e.1 := by rw [i2, zUp_kj _ _ (by decide)]; exact m17
  rw [m27, nI_1]
  have k : ∀ c, c ≠ 128 → c ≠ 129 → zUp m2 128 17 (nI (e.1 + 1)) c = u c := fun c a b => by rw [zUp_k _ _ a, i2, zUp_k _ _ b, i1, zUp_k _ _ b]
  have k8 : ∀ j, j ≠ 17 → zUp m2 128 17 (nI (e.1 + 1)) 128 j = u 128 j := fun j a => by rw [zUp_j _ _ a, i2, zUp_kj _ _ (by decide), i1, zUp_kj _ _ (by decide)]
  have k9 : ∀ j, j ≠ 1373 + 2 * e.1 → j ≠ 1373 + 2 * e.1 + 1 → zUp m2 128 17 (nI (e.1 + 1)) 129 j = u 129 j := fun j a b => by rw [zUp_k _ _ (by decide), i2, zUp_j _ _ b, i1, zUp_j _ _ a]
  refine hA _ ⟨k, fun j _ _ _ d => k8 j d, fun j hj => k9 j (by omega) (by omega)⟩ k8 (zUp_at _ _ _ _) (fun c v hc x1e x2e => ⟨zUp_at _ _ _ _, fun i hi => ?_⟩)
  have hi : i < e.1 + 1 := hi
  by_cases z : i = e.1
  · subst z
    rw [(emE_n e c v).1, (emE_n e c v).2]
    refine ⟨?_, ?_⟩
    · rw [zUp_k _ _ (by decide), i2, zUp_j _ _ (by omega), i1, zUp_at, x1e]
    · rw [zUp_k _ _ (by decide), i2, zUp_at, x2e]
  · have o := emE_o (e := e) (c := c) (v := v) (i := i) (by omega)
    rw [o.1, o.2, k9 _ (by omega) (by omega), k9 _ (by omega) (by omega)]
    exact hc.2 i (by omega)
/-- a piece, of the reference -/
def rvI (D y : Nat) (B : Nat → Nat) (L dp : Nat) (f : Nat → lpE → lpR) : Prop := ∀ (u0 u : zM) (a : Nat) (e : lpE) (K : Int32 → zM → Prop), rcF u0 u → rcP u B L dp a e → e.1 < a → (∀ w g, rcF u0 w → f a e = .inl g → w 128 13 = nI g → K 0 w) → (∀ w a2 e2, rcF u0 w → f a e = .inr (a2, e2) → rcP w B L dp a2 e2 → K 1 w) → zCI D y [.ref 128] u K
theorem lpWd_t {B : Nat → Nat} {L k c a : Nat} {e : lpE} {r : lpR} (h : isW B L k a = true) : lpWd B L k c a e r = .inr (nxB B L a, emE e c 0) := by unfold lpWd; rw [if_pos h]
theorem lpWd_f {B : Nat → Nat} {L k c a : Nat} {e : lpE} {r : lpR} (h : isW B L k a = false) : lpWd B L k c a e r = r := by unfold lpWd; rw [h, if_neg (by decide)]
/-- which word of a PART stands there -/
def wopO (B : Nat → Nat) (L a : Nat) (r : lpE → lpR) (x : Int32) : Prop := ((∀ e, r e = .inl a) ∧ x = -1) ∨ ∃ c k, c ≤ 7 ∧ x = nI c ∧ zLtw k = true ∧ isW B L k a = true ∧ ∀ e, r e = .inr (nxB B L a, emE e c 0)
theorem r_wop1 {d L k c a : Nat} {B : Nat → Nat} {ac : Int32} {r : lpE → lpR} {u : zM} {Q : Option Value → zM → Prop} {A : zM → Prop} (hk : zLtw k = true) (ec : ac = nI c) (hc : c ≤ 7) (hU : rkL u B L a) (h : ∀ x, wopO B L a (fun e => lpWd B L k c a e (r e)) x → Q (some (.int x)) u) (hA : (∀ x, wopO B L a r x → Q (some (.int x)) u) → A u) :
    zCI (d + 1) 206 [.ref 128, .ref k] u fun x w => ((x = 0 → A w) ∧ (¬ x = 0 → Q (some (.int ac)) w)) := by
  subst ec
  refine r_isWord hk hU ⟨_, rfl, ?_⟩
  cases q : isW B L k a
  · refine ⟨fun _ => hA (fun x g => h x ?_), fun z => absurd rfl z⟩
    rcases g with ⟨g1, g2⟩ | ⟨c2, k2, g1, g2, g3, g4, g5⟩
    · exact Or.inl ⟨fun e => (lpWd_f q).trans (g1 e), g2⟩
    · exact Or.inr ⟨c2, k2, g1, g2, g3, g4, fun e => (lpWd_f q).trans (g5 e)⟩
  · exact ⟨fun z => absurd z (by decide), fun _ => h _ (Or.inr ⟨c, k, hc, rfl, hk, q, fun e => lpWd_t q⟩)⟩
theorem r_wop {d L a : Nat} {B : Nat → Nat} {u : zM} {Q : Option Value → zM → Prop} (hU : rkL u B L a) (h : ∀ x, wopO B L a (fun e => lpWs B L a e) x → Q (some (.int x)) u) : zCall (d + 2) false 219 [.ref 128] u Q := by
  refine tX12_wordOfPart ?_
  refine r_wop1 (c := 0) (by decide +kernel) rfl (by decide) hU h (fun h => ?_)
  refine r_wop1 (c := 1) (by decide +kernel) rfl (by decide) hU h (fun h => ?_)
  refine r_wop1 (c := 2) (by decide +kernel) rfl (by decide) hU h (fun h => ?_)
  refine r_wop1 (c := 3) (by decide +kernel) rfl (by decide) hU h (fun h => ?_)
  refine r_wop1 (c := 4) (by decide +kernel) rfl (by decide) hU h (fun h => ?_)
  refine r_wop1 (c := 5) (by decide +kernel) rfl (by decide) hU h (fun h => ?_)
  refine r_wop1 (c := 6) (by decide +kernel) rfl (by decide) hU h (fun h => ?_)
  refine r_wop1 (c := 7) (A := fun w => Q (some (.int (-1))) w) (by decide +kernel) rfl (by decide) hU h (fun h => ?_)
  exact h _ (Or.inl ⟨fun _ => rfl, rfl⟩)
theorem isW_nl {B : Nat → Nat} {L k a : Nat} (hk : zLtw k = true) (ha : a ≤ L) (hB : ∀ i, i < L → B i < 256) (h : ltB B L a = a) : isW B L k a = false := by
  have hs := zLtw_s hk
  have z8 := zTn_b (k - 2000) (by have := hs.1; have := hs.2; omega)
  rw [isW_l hk ha hB, h, decide_eq_false (by omega), Bool.false_and]
theorem lpWs_nl {B : Nat → Nat} {L a : Nat} (ha : a ≤ L) (hB : ∀ i, i < L → B i < 256) (h : ltB B L a = a) (e : lpE) : lpWs B L a e = .inl a := by
  unfold lpWs
  rw [lpWd_f (isW_nl (by decide +kernel) ha hB h), lpWd_f (isW_nl (by decide +kernel) ha hB h), lpWd_f (isW_nl (by decide +kernel) ha hB h), lpWd_f (isW_nl (by decide +kernel) ha hB h), lpWd_f (isW_nl (by decide +kernel) ha hB h), lpWd_f (isW_nl (by decide +kernel) ha hB h), lpWd_f (isW_nl (by decide +kernel) ha hB h), lpWd_f (isW_nl (by decide +kernel) ha hB h)]
theorem rk_em {u w : zM} {B : Nat → Nat} {L a : Nat} (h : rkA u B L a) (f : rcF u w) (f8 : ∀ j, j ≠ 17 → w 128 j = u 128 j) : rkA w B L a := h.congr (f8 11 (by decide)) (f8 12 (by decide)) (f.1 135 (by decide) (by decide))
set_option maxHeartbeats 1000000 in
theorem rv_part {B : Nat → Nat} {L dp D : Nat} (hD : 6 ≤ D) : rvI D 220 B L dp (lpPart B L) := by
  obtain ⟨d, rfl⟩ : ∃ d, D = d + 6 := ⟨D - 6, by omega⟩
  intro u0 u a e K hF hP he h0 h1
  have le := hP.1.le
  refine tX12_readPart ?_
  refine r_letters (d := d + 2) hP.1 (fun w1 f1 l1 => ⟨rfl, ?_⟩)
  have hB : ∀ i, i < L → B i < 256 := fun i hi => (l1.1.2.2.2.2 i hi).1
  have w17 : w1 128 17 = nI e.1 := (f1.2 17 (by decide) (by decide)).trans hP.2.1.1
  have c1 : rfC w1 e := hP.2.1.f f1
  have F1 := hF.tr f1.c
  have lt := ltB_le (B := B) (L := L) (p := a) le.1
  have x11 : w1 128 11 = nI (ltB B L a) := l1.1.2.2.2.1
  dsimp only
  rw [x11, l1.2.1, nI_eq (by omega) (by omega)]
  refine ⟨fun z => ?_, fun z => ?_⟩
  · -- letters
    have q : a < L ∧ soB (B a) = 0 := Decidable.byContradiction fun y => z (ltB_no y)
    have ep : lpPart B L a e = lpWs B L a e := by unfold lpPart; rw [if_neg (by omega)]
    rw [ep] at h0 h1
    refine r_wop (d := d + 3) l1 (fun x hx => ⟨_, rfl, ?_⟩)
    refine r_em (e := e) (A := fun w => ((x < 0 → ∃ y, some (Value.int 0) = some (.int y) ∧ K y w) ∧ (¬ x < 0 → ∃ y, some (Value.int 1) = some (.int y) ∧ K y w))) w17 (by omega) (fun w2 f2 f8 _ hc => ?_)
    rcases hx with ⟨g1, rfl⟩ | ⟨c, k, g1, rfl, g3, g4, g5⟩
    · exact ⟨fun _ => ⟨_, rfl, h0 w2 a (F1.tr f2) (g1 e) ((f8 13 (by decide)).trans l1.2.1)⟩, fun z => absurd (by decide) z⟩
    · refine ⟨fun z => absurd z (nI_pos (by omega)), fun _ => ⟨_, rfl, h1 w2 _ _ (F1.tr f2) (g5 e) ⟨rk_em (l1.nx g3 g4) f2 f8, hc c 0 c1 rfl rfl, ?_⟩⟩⟩
      rw [f8 14 (by decide), f1.2 14 (by decide) (by decide)]; exact hP.2.2
  · -- none
    have hU1 : rkA w1 B L a := ⟨ltB B L a, l1.1, by rw [z]; exact le.2.1⟩
    have nws := lpWs_nl le.1 hB z
    have go : ∀ (w2 : zM) (x : Int32), rkF w1 w2 → w2 128 13 = nI a → ((x = -1 ∧ ∀ e, lpPart B L a e = .inl a) ∨ (∃ v, v ≤ 999 ∧ x = nI v ∧ rkA w2 B L (nxB B L a) ∧ ∀ e, lpPart B L a e = .inr (nxB B L a, emE e 10 v))) → vp_in (1373 + (2 * (w2 128 17))) 2173 ∧ (∀ m10 : zM, m10 = zUp w2 129 ((1373 + (2 * (w2 128 17))).toNatClampNeg) 10 → (vp_in ((1373 + (2 * (m10 128 17))) + 1) 2173 ∧ (∀ m11 : zM, m11 = zUp m10 129 (((1373 + (2 * (m10 128 17))) + 1).toNatClampNeg) x → ((x < 0 → ∃ y, some (Value.int 0) = some (.int y) ∧ K y (zUp m11 128 17 ((m11 128 17) + 1))) ∧ (¬ x < 0 → ∃ y, some (Value.int 1) = some (.int y) ∧ K y (zUp m11 128 17 ((m11 128 17) + 1))))))) := by
      intro w2 x f2 b2 hx
      refine r_em (e := e) (x1 := 10) (x2 := x) (A := fun w => ((x < 0 → ∃ y, some (Value.int 0) = some (.int y) ∧ K y w) ∧ (¬ x < 0 → ∃ y, some (Value.int 1) = some (.int y) ∧ K y w))) ((f2.2 17 (by decide) (by decide)).trans w17) (by omega) (fun w3 f3 f8 _ hc => ?_)
      have F3 := (F1.tr f2.c).tr f3
      rcases hx with ⟨rfl, g⟩ | ⟨v, hv, rfl, t, g⟩
      · exact ⟨fun _ => ⟨_, rfl, h0 w3 a F3 (g e) ((f8 13 (by decide)).trans b2)⟩, fun z => absurd (by decide) z⟩
      · refine ⟨fun z => absurd z (nI_pos (by omega)), fun _ => ⟨_, rfl, h1 w3 _ _ F3 (g e) ⟨rk_em t f3 f8, hc 10 v (c1.f f2) rfl rfl, ?_⟩⟩⟩
        rw [f8 14 (by decide), f2.2 14 (by decide) (by decide), f1.2 14 (by decide) (by decide)]; exact hP.2.2
    refine r_number (d := d + 1) (ex := 1000) (lo := 0) (hi := 999) rfl rfl (by decide) (by decide) (by decide) hU1 (fun w2 f2 b2 n2 t2 => ⟨_, rfl, go w2 _ f2 b2 (Or.inr ?_)⟩) (fun w2 f2 b2 n2 => ⟨_, rfl, go w2 _ f2 b2 (Or.inl ⟨rfl, fun e => ?_⟩)⟩)
    · have kk := of_decide_eq_true n2
      refine ⟨nuV B L a, kk.2.2.2.2.1, rfl, t2, fun e => ?_⟩
      unfold lpPart
      rw [if_pos ⟨kk.1, kk.2.1⟩, if_pos n2]
    · unfold lpPart
      split
      · rw [n2, if_neg (by decide)]
      · exact nws e
theorem rv_sum {B : Nat → Nat} {L D dp N : Nat} {t : Bool} {f : Nat → lpE → lpR} (hD : 7 ≤ D) (hg : lpGd B L N t f) (hf : rvI (D - 1) 220 B L dp f) : rvI D 221 B L dp (lpSeq B L f 2028 11) := by
  obtain ⟨d, rfl⟩ : ∃ d, D = d + 7 := ⟨D - 7, by omega⟩
  have hf : rvI (d + 6) 220 B L dp f := hf
  intro u0 u a e K hF hP he h0 h1
  have go : ∀ n (u : zM) (a : Nat) (e : lpE), 400 ≤ a + n → rcF u0 u → rcP u B L dp a e → e.1 < a → (∀ w g, rcF u0 w → lpMore B L f 2028 11 n a e = .inl g → w 128 13 = nI g → K 0 w) → (∀ w a2 e2, rcF u0 w → lpMore B L f 2028 11 n a e = .inr (a2, e2) → rcP w B L dp a2 e2 → K 1 w) → zRun (d + 6) false zcX12_readSum 2 (fun v w => ∃ x, v = some (.int x) ∧ K x w) 9 [(0, .ref 128)] [] u := by
    intro n
    induction n with
    | zero =>
      intro u a e hn hF hP he h0 h1
      have le := hP.1.le
      have no : isW B L 2028 a = false := by
        cases z : isW B L 2028 a
        · rfl
        · have := (isW_lt ⟨by decide, by decide⟩ le.1 z).2; omega
      refine tX12_readSum_9 ?_
      refine r_sign (d := d + 2) (k := 2028) (c := 43) rfl (by decide +kernel) (by decide +kernel) (by decide) (by decide +kernel) hP.1 (fun w1 f1 b1 t1 => ⟨_, rfl, ?_⟩)
      rw [no] at t1 ⊢
      rw [if_neg (by decide)] at t1
      exact ⟨fun _ => ⟨_, rfl, h1 w1 a e (hF.tr f1.c) rfl (hP.f f1 t1)⟩, fun z => absurd rfl z⟩
    | succ n ih =>
      intro u a e hn hF hP he h0 h1
      have le := hP.1.le
      have em : lpMore B L f 2028 11 (n + 1) a e = if isW B L 2028 a = true then bdR (f (nxB B L a) e) (fun a2 e2 => lpMore B L f 2028 11 n a2 (emE e2 11 0)) else .inr (a, e) := rfl
      rw [em] at h0 h1
      refine tX12_readSum_9 ?_
      refine r_sign (d := d + 2) (k := 2028) (c := 43) rfl (by decide +kernel) (by decide +kernel) (by decide) (by decide +kernel) hP.1 (fun w1 f1 b1 t1 => ⟨_, rfl, ?_⟩)
      have F1 := hF.tr f1.c
      cases q : isW B L 2028 a
      · rw [q, if_neg (by decide)] at t1 h1
        exact ⟨fun _ => ⟨_, rfl, h1 w1 a e F1 rfl (hP.f f1 t1)⟩, fun z => absurd rfl z⟩
      · rw [q, if_pos rfl] at t1 h1 h0
        refine ⟨fun z => absurd z (by decide), fun _ => ?_⟩
        have n0 := nxB_le (B := B) le.1
        have n1 := nxB_lt (B := B) (isW_lt ⟨by decide, by decide⟩ le.1 q).2
        refine hf u0 w1 (nxB B L a) e _ F1 (hP.f f1 t1) (by omega) (fun w2 g f2 e2 b2 => ⟨fun z => absurd rfl z, fun _ => ⟨_, rfl, h0 w2 g f2 (by rw [e2]; rfl) b2⟩⟩) (fun w2 a2 e2 f2 g2 p2 => ⟨fun _ => ?_, fun z => absurd z (by decide)⟩)
        rw [g2] at h0 h1
        have g : lpG B L N t (nxB B L a) e a2 e2 := hg _ _ _ _ n0.2 g2
        have s1 := g.1
        have s2 := g.2.1
        have s3 := g.2.2.2.1
        refine r_em (e := e2) (x1 := 11) (x2 := 0) (A := fun w => zRun (d + 6) false zcX12_readSum 2 (fun v w => ∃ x, v = some (.int x) ∧ K x w) 9 [(0, .ref 128)] [] w) p2.2.1.1 (by omega) (fun w3 f3 f8 _ hc => ?_)
        refine ih w3 a2 (emE e2 11 0) (by omega) (f2.tr f3) ⟨rk_em p2.1 f3 f8, hc 11 0 p2.2.1 rfl rfl, (f8 14 (by decide)).trans p2.2.2⟩ ?_ h0 h1
        show e2.1 + 1 < a2
        omega
  refine tX12_readSum ?_
  refine hf u0 u a e _ hF hP he (fun w g f1 e1 b1 => ⟨fun z => absurd rfl z, fun _ => ⟨_, rfl, h0 w g f1 (by unfold lpSeq; rw [e1]; rfl) b1⟩⟩) (fun w a2 e2 f1 g1 p1 => ⟨fun _ => ?_, fun z => absurd z (by decide)⟩)
  have g : lpG B L N t a e a2 e2 := hg _ _ _ _ hP.1.le.1 g1
  have s3 := g.2.2.2.1
  have es : lpSeq B L f 2028 11 a e = lpMore B L f 2028 11 400 a2 e2 := by unfold lpSeq; rw [g1]; rfl
  rw [es] at h0 h1
  exact go 400 w a2 e2 (by omega) f1 p1 (by omega) h0 h1
theorem rv_all {B : Nat → Nat} {L D dp N : Nat} {t : Bool} {f : Nat → lpE → lpR} (hD : 7 ≤ D) (hg : lpGd B L N t f) (hf : rvI (D - 1) 223 B L dp f) : rvI D 224 B L dp (lpSeq B L f 2021 15) := by
  obtain ⟨d, rfl⟩ : ∃ d, D = d + 7 := ⟨D - 7, by omega⟩
  have hf : rvI (d + 6) 223 B L dp f := hf
  intro u0 u a e K hF hP he h0 h1
  have go : ∀ n (u : zM) (a : Nat) (e : lpE), 400 ≤ a + n → rcF u0 u → rcP u B L dp a e → e.1 < a → (∀ w g, rcF u0 w → lpMore B L f 2021 15 n a e = .inl g → w 128 13 = nI g → K 0 w) → (∀ w a2 e2, rcF u0 w → lpMore B L f 2021 15 n a e = .inr (a2, e2) → rcP w B L dp a2 e2 → K 1 w) → zRun (d + 6) false zcX12_readAllOf 2 (fun v w => ∃ x, v = some (.int x) ∧ K x w) 9 [(0, .ref 128)] [] u := by
    intro n
    induction n with
    | zero =>
      intro u a e hn hF hP he h0 h1
      have le := hP.1.le
      have no : isW B L 2021 a = false := by
        cases z : isW B L 2021 a
        · rfl
        · have := (isW_lt ⟨by decide, by decide⟩ le.1 z).2; omega
      refine tX12_readAllOf_9 ?_
      refine r_passes (d := d + 2) (k := 2021) (by decide +kernel) hP.1 (fun w1 f1 b1 t1 => ⟨_, rfl, ?_⟩)
      rw [no] at t1 ⊢
      rw [if_neg (by decide)] at t1
      exact ⟨fun _ => ⟨_, rfl, h1 w1 a e (hF.tr f1.c) rfl (hP.f f1 t1)⟩, fun z => absurd rfl z⟩
    | succ n ih =>
      intro u a e hn hF hP he h0 h1
      have le := hP.1.le
      have em : lpMore B L f 2021 15 (n + 1) a e = if isW B L 2021 a = true then bdR (f (nxB B L a) e) (fun a2 e2 => lpMore B L f 2021 15 n a2 (emE e2 15 0)) else .inr (a, e) := rfl
      rw [em] at h0 h1
      refine tX12_readAllOf_9 ?_
      refine r_passes (d := d + 2) (k := 2021) (by decide +kernel) hP.1 (fun w1 f1 b1 t1 => ⟨_, rfl, ?_⟩)
      have F1 := hF.tr f1.c
      cases q : isW B L 2021 a
      · rw [q, if_neg (by decide)] at t1 h1
        exact ⟨fun _ => ⟨_, rfl, h1 w1 a e F1 rfl (hP.f f1 t1)⟩, fun z => absurd rfl z⟩
      · rw [q, if_pos rfl] at t1 h1 h0
        refine ⟨fun z => absurd z (by decide), fun _ => ?_⟩
        have n0 := nxB_le (B := B) le.1
        have n1 := nxB_lt (B := B) (isW_lt ⟨by decide, by decide⟩ le.1 q).2
        refine hf u0 w1 (nxB B L a) e _ F1 (hP.f f1 t1) (by omega) (fun w2 g f2 e2 b2 => ⟨fun z => absurd rfl z, fun _ => ⟨_, rfl, h0 w2 g f2 (by rw [e2]; rfl) b2⟩⟩) (fun w2 a2 e2 f2 g2 p2 => ⟨fun _ => ?_, fun z => absurd z (by decide)⟩)
        rw [g2] at h0 h1
        have g : lpG B L N t (nxB B L a) e a2 e2 := hg _ _ _ _ n0.2 g2
        have s1 := g.1
        have s2 := g.2.1
        have s3 := g.2.2.2.1
        refine r_em (e := e2) (x1 := 15) (x2 := 0) (A := fun w => zRun (d + 6) false zcX12_readAllOf 2 (fun v w => ∃ x, v = some (.int x) ∧ K x w) 9 [(0, .ref 128)] [] w) p2.2.1.1 (by omega) (fun w3 f3 f8 _ hc => ?_)
        refine ih w3 a2 (emE e2 15 0) (by omega) (f2.tr f3) ⟨rk_em p2.1 f3 f8, hc 15 0 p2.2.1 rfl rfl, (f8 14 (by decide)).trans p2.2.2⟩ ?_ h0 h1
        show e2.1 + 1 < a2
        omega
  refine tX12_readAllOf ?_
  refine hf u0 u a e _ hF hP he (fun w g f1 e1 b1 => ⟨fun z => absurd rfl z, fun _ => ⟨_, rfl, h0 w g f1 (by unfold lpSeq; rw [e1]; rfl) b1⟩⟩) (fun w a2 e2 f1 g1 p1 => ⟨fun _ => ?_, fun z => absurd z (by decide)⟩)
  have g : lpG B L N t a e a2 e2 := hg _ _ _ _ hP.1.le.1 g1
  have s3 := g.2.2.2.1
  have es : lpSeq B L f 2021 15 a e = lpMore B L f 2021 15 400 a2 e2 := by unfold lpSeq; rw [g1]; rfl
  rw [es] at h0 h1
  exact go 400 w a2 e2 (by omega) f1 p1 (by omega) h0 h1
theorem rv_any {B : Nat → Nat} {L D dp N : Nat} {t : Bool} {f : Nat → lpE → lpR} (hD : 7 ≤ D) (hg : lpGd B L N t f) (hf : rvI (D - 1) 224 B L dp f) : rvI D 225 B L dp (lpSeq B L f 2020 16) := by
  obtain ⟨d, rfl⟩ : ∃ d, D = d + 7 := ⟨D - 7, by omega⟩
  have hf : rvI (d + 6) 224 B L dp f := hf
  intro u0 u a e K hF hP he h0 h1
  have go : ∀ n (u : zM) (a : Nat) (e : lpE), 400 ≤ a + n → rcF u0 u → rcP u B L dp a e → e.1 < a → (∀ w g, rcF u0 w → lpMore B L f 2020 16 n a e = .inl g → w 128 13 = nI g → K 0 w) → (∀ w a2 e2, rcF u0 w → lpMore B L f 2020 16 n a e = .inr (a2, e2) → rcP w B L dp a2 e2 → K 1 w) → zRun (d + 6) false zcX12_readCond 2 (fun v w => ∃ x, v = some (.int x) ∧ K x w) 9 [(0, .ref 128)] [] u := by
    intro n
    induction n with
    | zero =>
      intro u a e hn hF hP he h0 h1
      have le := hP.1.le
      have no : isW B L 2020 a = false := by
        cases z : isW B L 2020 a
        · rfl
        · have := (isW_lt ⟨by decide, by decide⟩ le.1 z).2; omega
      refine tX12_readCond_9 ?_
      refine r_passes (d := d + 2) (k := 2020) (by decide +kernel) hP.1 (fun w1 f1 b1 t1 => ⟨_, rfl, ?_⟩)
      rw [no] at t1 ⊢
      rw [if_neg (by decide)] at t1
      exact ⟨fun _ => ⟨_, rfl, h1 w1 a e (hF.tr f1.c) rfl (hP.f f1 t1)⟩, fun z => absurd rfl z⟩
    | succ n ih =>
      intro u a e hn hF hP he h0 h1
      have le := hP.1.le
      have em : lpMore B L f 2020 16 (n + 1) a e = if isW B L 2020 a = true then bdR (f (nxB B L a) e) (fun a2 e2 => lpMore B L f 2020 16 n a2 (emE e2 16 0)) else .inr (a, e) := rfl
      rw [em] at h0 h1
      refine tX12_readCond_9 ?_
      refine r_passes (d := d + 2) (k := 2020) (by decide +kernel) hP.1 (fun w1 f1 b1 t1 => ⟨_, rfl, ?_⟩)
      have F1 := hF.tr f1.c
      cases q : isW B L 2020 a
      · rw [q, if_neg (by decide)] at t1 h1
        exact ⟨fun _ => ⟨_, rfl, h1 w1 a e F1 rfl (hP.f f1 t1)⟩, fun z => absurd rfl z⟩
      · rw [q, if_pos rfl] at t1 h1 h0
        refine ⟨fun z => absurd z (by decide), fun _ => ?_⟩
        have n0 := nxB_le (B := B) le.1
        have n1 := nxB_lt (B := B) (isW_lt ⟨by decide, by decide⟩ le.1 q).2
        refine hf u0 w1 (nxB B L a) e _ F1 (hP.f f1 t1) (by omega) (fun w2 g f2 e2 b2 => ⟨fun z => absurd rfl z, fun _ => ⟨_, rfl, h0 w2 g f2 (by rw [e2]; rfl) b2⟩⟩) (fun w2 a2 e2 f2 g2 p2 => ⟨fun _ => ?_, fun z => absurd z (by decide)⟩)
        rw [g2] at h0 h1
        have g : lpG B L N t (nxB B L a) e a2 e2 := hg _ _ _ _ n0.2 g2
        have s1 := g.1
        have s2 := g.2.1
        have s3 := g.2.2.2.1
        refine r_em (e := e2) (x1 := 16) (x2 := 0) (A := fun w => zRun (d + 6) false zcX12_readCond 2 (fun v w => ∃ x, v = some (.int x) ∧ K x w) 9 [(0, .ref 128)] [] w) p2.2.1.1 (by omega) (fun w3 f3 f8 _ hc => ?_)
        refine ih w3 a2 (emE e2 16 0) (by omega) (f2.tr f3) ⟨rk_em p2.1 f3 f8, hc 16 0 p2.2.1 rfl rfl, (f8 14 (by decide)).trans p2.2.2⟩ ?_ h0 h1
        show e2.1 + 1 < a2
        omega
  refine tX12_readCond ?_
  refine hf u0 u a e _ hF hP he (fun w g f1 e1 b1 => ⟨fun z => absurd rfl z, fun _ => ⟨_, rfl, h0 w g f1 (by unfold lpSeq; rw [e1]; rfl) b1⟩⟩) (fun w a2 e2 f1 g1 p1 => ⟨fun _ => ?_, fun z => absurd z (by decide)⟩)
  have g : lpG B L N t a e a2 e2 := hg _ _ _ _ hP.1.le.1 g1
  have s3 := g.2.2.2.1
  have es : lpSeq B L f 2020 16 a e = lpMore B L f 2020 16 400 a2 e2 := by unfold lpSeq; rw [g1]; rfl
  rw [es] at h0 h1
  exact go 400 w a2 e2 (by omega) f1 p1 (by omega) h0 h1
