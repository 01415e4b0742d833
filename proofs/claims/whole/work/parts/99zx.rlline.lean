/-! a line of THE LAW, of the reference -/
def rfN (w : zM) (x : lpL) : Prop := ∀ l, l < x.1 → w 129 (1325 + 4 * l) = nI (x.2.2.1 l) ∧ w 129 (1325 + 4 * l + 1) = nI (x.2.2.2.1 l) ∧ w 129 (1325 + 4 * l + 2) = nI (x.2.2.2.2.1 l) ∧ w 129 (1325 + 4 * l + 3) = nI (x.2.2.2.2.2 l)
def llF (u w : zM) : Prop := (∀ c, c ≠ 128 → c ≠ 129 → w c = u c) ∧ (∀ j, j ≠ 11 → j ≠ 13 → j ≠ 14 → j ≠ 17 → w 128 j = u 128 j) ∧ ∀ k, k < 1324 → w 129 k = u 129 k
theorem rcF.l {u w : zM} (h : rcF u w) : llF u w := ⟨h.1, h.2.1, fun k a => h.2.2 k (by omega)⟩
theorem llF.rf (u : zM) : llF u u := rcF.l (rcF.rf u)
theorem llF.tr {u v w : zM} (h1 : llF u v) (h2 : llF v w) : llF u w := ⟨fun c a b => (h2.1 c a b).trans (h1.1 c a b), fun j a b x y => (h2.2.1 j a b x y).trans (h1.2.1 j a b x y), fun k a => (h2.2.2 k a).trans (h1.2.2 k a)⟩
theorem llF.up {u w : zM} (h : llF u w) {j : Nat} (v : Int32) (hj : 1324 ≤ j) : llF u (zUp w 129 j v) := ⟨fun c a b => (zUp_k _ _ b).trans (h.1 c a b), fun j a b x y => (zUp_kj _ _ (by decide)).trans (h.2.1 j a b x y), fun k a => (zUp_j _ _ (by omega)).trans (h.2.2 k a)⟩
theorem llF.dp {u w : zM} (h : llF u w) (v : Int32) : llF u (zUp w 128 14 v) := ⟨fun c a b => (zUp_k _ _ a).trans (h.1 c a b), fun j a b c d => (zUp_j _ _ c).trans (h.2.1 j a b c d), fun k a => (zUp_kj _ _ (by decide)).trans (h.2.2 k a)⟩
theorem ix4 (n i : Nat) {z : Int32} (e : z = nI i) : ((1325 : Int32) + (4 * nI n)) + z = nI (1325 + 4 * n + i) := by
  rw [e, show (1325 : Int32) = nI 1325 from rfl, show (4 : Int32) = nI 4 from rfl, nI_mul, nI_add, nI_add]
theorem ix40 (n : Nat) : (1325 : Int32) + (4 * nI n) = nI (1325 + 4 * n) := by
  rw [show (1325 : Int32) = nI 1325 from rfl, show (4 : Int32) = nI 4 from rfl, nI_mul, nI_add]
theorem rfC.up {w : zM} {e : lpE} (h : rfC w e) {j : Nat} (v : Int32) (hj : j < 1373) : rfC (zUp w 129 j v) e := by
  refine ⟨(zUp_kj _ _ (by decide)).trans h.1, fun i hi => ?_⟩
  rw [zUp_j _ _ (by omega), zUp_j _ _ (by omega)]
  exact h.2 i hi
set_option maxHeartbeats 2000000 in
theorem rl_br {d L n a kd : Nat} {B : Nat → Nat} {KD : Int32} {x : lpL} {u : zM} {Q : Option Value → zM → Prop} (eK : KD = nI kd) (hk : kd ≤ 2) (hU : rkA u B L a) (hC : rfC u x.2.1) (hN : rfN u x) (en : x.1 = n) (hn : n < 12) (he : x.2.1.1 < a + 1)
    (h0 : ∀ w f, llF u w → (lnK B L a x kd).1 = .inl f → w 128 13 = nI f → Q (some (.int 0)) w)
    (h1 : ∀ w c, llF u w → (lnK B L a x kd).1 = .inr c → rkA w B L c → rfC w (lnK B L a x kd).2.2.1 → rfN w (lnK B L a x kd).2 → Q (some (.int 1)) w) :
    (vp_in (1325 + (4 * (nI n))) 2173 ∧ (∀ m21 : zM, m21 = zUp u 129 ((1325 + (4 * (nI n))).toNatClampNeg) KD → (vp_in (1325 + (4 * (nI n))) 2173 ∧ ((0 ≤ (m21 129 ((1325 + (4 * (nI n))).toNatClampNeg)) → (zCI (d + 29) 209 [.ref 128, .int 0, .int 100] m21 fun x23 w22 => (vp_in ((1325 + (4 * (nI n))) + 1) 2173 ∧ (∀ m24 : zM, m24 = zUp w22 129 (((1325 + (4 * (nI n))) + 1).toNatClampNeg) x23 → (vp_in ((1325 + (4 * (nI n))) + 1) 2173 ∧ ((0 ≤ (m24 129 (((1325 + (4 * (nI n))) + 1).toNatClampNeg)) → (vp_in ((1325 + (4 * (nI n))) + 2) 2173 ∧ (∀ m25 : zM, m25 = zUp m24 129 (((1325 + (4 * (nI n))) + 2).toNatClampNeg) (m24 128 17) → (∀ m26 : zM, m26 = zUp m25 128 14 0 → (zCI (d + 29) 207 [.ref 128, .ref 2019] m26 fun x28 w27 => ((x28 = 0 → (vp_in ((1325 + (4 * (nI n))) + 3) 2173 ∧ Q (some (.int 1)) (zUp w27 129 (((1325 + (4 * (nI n))) + 3).toNatClampNeg) (w27 128 17)))) ∧ (¬ x28 = 0 → (zCI (d + 29) 225 [.ref 128] w27 fun x30 w29 => ((¬ x30 = 0 → (vp_in ((1325 + (4 * (nI n))) + 3) 2173 ∧ Q (some (.int 1)) (zUp w29 129 (((1325 + (4 * (nI n))) + 3).toNatClampNeg) (w29 128 17)))) ∧ (x30 = 0 → Q (some (.int 0)) w29)))))))))) ∧ (¬ 0 ≤ (m24 129 (((1325 + (4 * (nI n))) + 1).toNatClampNeg)) → Q (some (.int 0)) m24))))))) ∧ (¬ 0 ≤ (m21 129 ((1325 + (4 * (nI n))).toNatClampNeg)) → Q (some (.int 0)) m21))))) := by
  have le := hU.le
  have kn : ∀ i, i < 4 → (nI (1325 + 4 * n + i)).toNatClampNeg = 1325 + 4 * n + i := fun i hi => nI_clamp (by omega)
  have kv : ∀ i, i < 4 → vp_in (nI (1325 + 4 * n + i)) 2173 := fun i hi => vp_in_nI (by omega) (by decide)
  have k0 : (nI (1325 + 4 * n)).toNatClampNeg = 1325 + 4 * n := nI_clamp (by omega)
  rw [ix4 n 1 (z := 1) rfl, ix4 n 2 (z := 2) rfl, ix4 n 3 (z := 3) rfl, ix40 n, k0, kn 1 (by decide), kn 2 (by decide), kn 3 (by decide)]
  refine ⟨vp_in_nI (by omega) (by decide), fun m1 i1 => ⟨vp_in_nI (by omega) (by decide), ?_⟩⟩
  have m1k : m1 129 (1325 + 4 * n) = nI kd := by rw [i1, zUp_at, eK]
  have U1 : rkA m1 B L a := by rw [i1]; exact hU.up _ _
  have C1 : rfC m1 x.2.1 := by rw [i1]; exact hC.up _ (by omega)
  have F1 : llF u m1 := by rw [i1]; exact (llF.rf u).up _ (by omega)
  have N1 : ∀ l, l < n → ∀ i, i < 4 → m1 129 (1325 + 4 * l + i) = u 129 (1325 + 4 * l + i) := fun l hl i hi => by rw [i1, zUp_j _ _ (by omega)]
  rw [m1k]
  refine ⟨fun _ => ?_, fun z => absurd (nI_pos' (by omega)) z⟩
  refine r_number (d := d + 25) (ex := 1000) (lo := 0) (hi := 100) rfl rfl (by decide) (by decide) (by decide) U1 (fun w2 f2 b2 n2 t2 => ⟨_, rfl, ?_⟩) (fun w2 f2 b2 n2 => ⟨_, rfl, kv 1 (by decide), fun m10 i10 => ⟨kv 1 (by decide), ?_⟩⟩)
  rotate_left
  · have ek : lnK B L a x kd = (.inl a, x) := by unfold lnK; rw [n2, if_neg (by decide)]
    rw [ek] at h0
    have z : m10 129 (1325 + 4 * n + 1) = -1 := by rw [i10, zUp_at]
    rw [z]
    refine ⟨fun z => absurd z (by decide), fun _ => h0 m10 a (F1.tr ?_) rfl ?_⟩
    · rw [i10]; exact f2.c.l.up _ (by omega)
    · rw [i10, zUp_kj _ _ (by decide)]; exact b2
  have ek : lnK B L a x kd = lnR x kd (nuV B L a) (liF B L (nxB B L a) x.2.1) := by unfold lnK; rw [n2, if_pos rfl]
  rw [ek] at h0 h1
  have kk := of_decide_eq_true n2
  have n1 := nxB_lt (B := B) kk.1
  have n0 := nxB_le (B := B) le.1
  refine ⟨kv 1 (by decide), fun m2 i2 => ⟨kv 1 (by decide), ?_⟩⟩
  have m2k : m2 129 (1325 + 4 * n + 1) = nI (nuV B L a) := by rw [i2, zUp_at]
  have v100 : nuV B L a ≤ 100 := kk.2.2.2.2.1
  rw [m2k]
  refine ⟨fun _ => ⟨kv 2 (by decide), fun m3 i3 m4 i4 => ?_⟩, fun z => absurd (nI_pos' (by omega)) z⟩
  have w2C : rfC w2 x.2.1 := C1.f f2
  have m2C : rfC m2 x.2.1 := by rw [i2]; exact w2C.up _ (by omega)
  have m3C : rfC m3 x.2.1 := by rw [i3]; exact m2C.up _ (by omega)
  have P4 : rcP m4 B L 0 (nxB B L a) x.2.1 := by
    have t3 : rkA m3 B L (nxB B L a) := by rw [i3, i2]; exact (t2.up _ _).up _ _
    refine ⟨?_, ?_, ?_⟩
    · rw [i4]; exact t3.congr (zUp_j _ _ (by decide)) (zUp_j _ _ (by decide)) (zUp_k _ _ (by decide))
    · unfold rfC
      rw [i4, zUp_j _ _ (by decide), zUp_k _ _ (by decide)]
      exact m3C
    · rw [i4, zUp_at]; rfl
  have F4 : llF u m4 := by
    rw [i4, i3, i2]
    exact (((F1.tr f2.c.l).up _ (by omega)).up _ (by omega)).dp _
  have m4k : ∀ k, k < 1373 → k ≠ 1325 + 4 * n + 1 → k ≠ 1325 + 4 * n + 2 → m4 129 k = m1 129 k := fun k _ a b => by
    rw [i4, zUp_k _ _ (by decide), i3, zUp_j _ _ b, i2, zUp_j _ _ a, f2.1 129 (by decide)]
  have m4v : m4 129 (1325 + 4 * n + 1) = nI (nuV B L a) := by rw [i4, zUp_k _ _ (by decide), i3, zUp_j _ _ (by omega)]; exact m2k
  have m4b : m4 129 (1325 + 4 * n + 2) = nI x.2.1.1 := by rw [i4, zUp_k _ _ (by decide), i3, zUp_at]; exact m2C.1
  -- the line is whole
  have fin : ∀ w a2 e2, rcF m4 w → liF B L (nxB B L a) x.2.1 = .inr (a2, e2) → rkA w B L a2 → rfC w e2 → Q (some (.int 1)) (zUp w 129 (1325 + 4 * n + 3) (w 128 17)) := by
    intro w a2 e2 fw ee ta ce
    rw [ee] at h1
    refine h1 _ a2 ((F4.tr fw.l).up _ (by omega)) rfl (ta.up _ _) (ce.up _ (by omega)) (fun l hl => ?_)
    have hl : l < x.1 + 1 := hl
    show zUp w 129 (1325 + 4 * n + 3) (w 128 17) 129 (1325 + 4 * l) = nI (nUp x.2.2.1 x.1 kd l) ∧ zUp w 129 (1325 + 4 * n + 3) (w 128 17) 129 (1325 + 4 * l + 1) = nI (nUp x.2.2.2.1 x.1 (nuV B L a) l) ∧ zUp w 129 (1325 + 4 * n + 3) (w 128 17) 129 (1325 + 4 * l + 2) = nI (nUp x.2.2.2.2.1 x.1 x.2.1.1 l) ∧ zUp w 129 (1325 + 4 * n + 3) (w 128 17) 129 (1325 + 4 * l + 3) = nI (nUp x.2.2.2.2.2 x.1 e2.1 l)
    by_cases y : l = n
    · subst y
      rw [en, nUp_at, nUp_at, nUp_at, nUp_at, zUp_at, zUp_j _ _ (by omega), zUp_j _ _ (by omega), zUp_j _ _ (by omega), fw.2.2 _ (by omega), fw.2.2 _ (by omega), fw.2.2 _ (by omega), m4v, m4b, m4k _ (by omega) (by omega) (by omega), m1k]
      exact ⟨rfl, rfl, rfl, ce.1⟩
    · have g := hN l (by omega)
      have q0 := N1 l (by omega) 0 (by decide)
      have q1 := N1 l (by omega) 1 (by decide)
      have q2 := N1 l (by omega) 2 (by decide)
      have q3 := N1 l (by omega) 3 (by decide)
      rw [Nat.add_zero] at q0
      rw [nUp_ne _ _ (by omega), nUp_ne _ _ (by omega), nUp_ne _ _ (by omega), nUp_ne _ _ (by omega), zUp_j _ _ (by omega), zUp_j _ _ (by omega), zUp_j _ _ (by omega), zUp_j _ _ (by omega), fw.2.2 _ (by omega), fw.2.2 _ (by omega), fw.2.2 _ (by omega), fw.2.2 _ (by omega), m4k _ (by omega) (by omega) (by omega), m4k _ (by omega) (by omega) (by omega), m4k _ (by omega) (by omega) (by omega), m4k _ (by omega) (by omega) (by omega), q0, q1, q2, q3]
      exact g
  refine r_passes (d := d + 25) (k := 2019) (by decide +kernel) P4.1 (fun w5 f5 b5 t5 => ⟨_, rfl, ?_⟩)
  have ef : liF B L (nxB B L a) x.2.1 = if isW B L 2019 (nxB B L a) = true then lpAny B L 6 (nxB B L (nxB B L a)) x.2.1 else .inr (nxB B L a, x.2.1) := rfl
  cases q : isW B L 2019 (nxB B L a)
  · rw [q, if_neg (by decide)] at t5 ef
    exact ⟨fun _ => ⟨kv 3 (by decide), fin w5 _ _ f5.c ef t5 (P4.2.1.f f5)⟩, fun z => absurd rfl z⟩
  · rw [q, if_pos rfl] at t5 ef
    have n2 := nxB_lt (B := B) (isW_lt ⟨by decide, by decide⟩ n0.2 q).2
    refine ⟨fun z => absurd z (by decide), fun _ => ?_⟩
    refine rv_any6 (by omega) m4 w5 _ x.2.1 _ f5.c (P4.f f5 t5) (by omega) (fun w g f6 e6 b6 => ⟨fun z => absurd rfl z, fun _ => h0 w g (F4.tr f6.l) (by rw [ef, e6]; rfl) b6⟩) (fun w a2 e2 f6 e6 p6 => ⟨fun _ => ⟨kv 3 (by decide), fin w a2 e2 f6 (by rw [ef, e6]) p6.1 p6.2.1⟩, fun z => absurd z (by decide)⟩)
set_option maxHeartbeats 2000000 in
theorem r_lawLine {d L n a : Nat} {B : Nat → Nat} {x : lpL} {u : zM} {Q : Option Value → zM → Prop} (hU : rkL u B L a) (hC : rfC u x.2.1) (hN : rfN u x) (en : x.1 = n) (hn : n < 12) (he : x.2.1.1 < a + 1)
    (h0 : ∀ w f, llF u w → (lnS B L (.inr a, x)).1 = .inl f → w 128 13 = nI f → Q (some (.int 0)) w)
    (h1 : ∀ w c, llF u w → (lnS B L (.inr a, x)).1 = .inr c → rkA w B L c → rfC w (lnS B L (.inr a, x)).2.2.1 → rfN w (lnS B L (.inr a, x)).2 → Q (some (.int 1)) w) : zCall (d + 30) false 226 [.ref 128, .int (nI n)] u Q := by
  have es : lnS B L (.inr a, x) = match lkW B L a with
    | none => (.inl a, x)
    | some kd => lnK B L (nxB B L a) x kd := rfl
  have n0 := nxB_le (B := B) hU.2.2
  have k1 : zLtw 2016 = true := by decide +kernel
  have k2 : zLtw 2017 = true := by decide +kernel
  have k3 : zLtw 2018 = true := by decide +kernel
  refine tX12_readLawLine ?_
  refine r_isWord (d := d + 28) k1 hU ⟨_, rfl, ?_⟩
  cases q1 : isW B L 2016 a
  · refine ⟨fun _ => ?_, fun z => absurd rfl z⟩
    refine r_isWord (d := d + 28) k2 hU ⟨_, rfl, ?_⟩
    cases q2 : isW B L 2017 a
    · refine ⟨fun _ => ?_, fun z => absurd rfl z⟩
      refine r_isWord (d := d + 28) k3 hU ⟨_, rfl, ?_⟩
      cases q3 : isW B L 2018 a
      · refine ⟨fun _ => ?_, fun z => absurd rfl z⟩
        have ek : lkW B L a = none := by unfold lkW; rw [q1, q2, q3]; rfl
        rw [es, ek] at h0
        rw [ix40 n, nI_clamp (n := 1325 + 4 * n) (by omega)]
        refine ⟨vp_in_nI (by omega) (by decide), fun m1 i1 => ⟨vp_in_nI (by omega) (by decide), ?_⟩⟩
        have m1k : m1 129 (1325 + 4 * n) = -1 := by rw [i1, zUp_at]
        rw [m1k]
        refine ⟨fun z => absurd z (by decide), fun _ => h0 m1 a (by rw [i1]; exact (llF.rf u).up _ (by omega)) rfl ?_⟩
        rw [i1, zUp_kj _ _ (by decide)]; exact hU.2.1
      · have ek : lkW B L a = some 2 := by unfold lkW; rw [q1, q2, q3]; rfl
        rw [es, ek] at h0 h1
        exact ⟨fun z => absurd z (by decide), fun _ => rl_br (kd := 2) rfl (by decide) (hU.nx k3 q3) hC hN en hn (by omega) h0 h1⟩
    · have ek : lkW B L a = some 1 := by unfold lkW; rw [q1, q2]; rfl
      rw [es, ek] at h0 h1
      exact ⟨fun z => absurd z (by decide), fun _ => rl_br (kd := 1) rfl (by decide) (hU.nx k2 q2) hC hN en hn (by omega) h0 h1⟩
  · have ek : lkW B L a = some 0 := by unfold lkW; rw [q1]; rfl
    rw [es, ek] at h0 h1
    exact ⟨fun z => absurd z (by decide), fun _ => rl_br (kd := 0) rfl (by decide) (hU.nx k1 q1) hC hN en hn (by omega) h0 h1⟩
def lrF (u w : zM) : Prop := (∀ c, c ≠ 128 → c ≠ 129 → w c = u c) ∧ (∀ j, j ≠ 0 → j ≠ 10 → j ≠ 11 → j ≠ 12 → j ≠ 13 → j ≠ 14 → j ≠ 17 → w 128 j = u 128 j) ∧ (∀ k, k < 1324 → w 129 k = u 129 k) ∧ w 128 0 = 0 ∧ w 128 10 = 0
theorem lrF.l {u v w : zM} (h1 : lrF u v) (h2 : llF v w) : lrF u w := ⟨fun c a b => (h2.1 c a b).trans (h1.1 c a b), fun j a b c x y z t => (h2.2.1 j c y z t).trans (h1.2.1 j a b c x y z t), fun k a => (h2.2.2 k a).trans (h1.2.2.1 k a), (h2.2.1 0 (by decide) (by decide) (by decide) (by decide)).trans h1.2.2.2.1, (h2.2.1 10 (by decide) (by decide) (by decide) (by decide)).trans h1.2.2.2.2⟩
def lrR (u0 : zM) (B : Nat → Nat) (L : Nat) (n a : Nat) (x : lpL) (w : zM) : Prop := lrF u0 w ∧ rkA w B L a ∧ rfC w x.2.1 ∧ rfN w x ∧ lnO x a ∧ x.1 = n
set_option maxHeartbeats 1000000 in
theorem r_lwAll {d L : Nat} {B : Nat → Nat} {u : zM} {Q : Option Value → zM → Prop} (h10 : u 128 10 = nI L) (h4 : L ≤ 400) (hB : ∀ i, i < L → B i < 256 ∧ u 135 i = (nI (B i)).toInt8.toInt32)
    (h0 : ∀ f w, lrF u w → (lwT B L).1 = .inl f → w 128 13 = nI f → Q (some (.int (-1))) w)
    (h1 : ∀ m c w, m ≤ 12 → (lwT B L).1 = .inr c → lrR u B L m c (lwT B L).2 w → Q (some (.int (nI m))) w) : zCall (d + 32) false 228 [.ref 128, .int 0] u Q := by
  refine r_readAll (step := lnS B L) (R := lrR u B L) (F := lrF u) (N := 12) (x := lw0) (by decide) h10 h4 hB ?_ (fun m a x w g => g.2.1) (fun m a b x w z g f t ab => ⟨g.1.l f.c.l, t, g.2.2.1.f f, by unfold rfN; rw [f.1 129 (by decide)]; exact g.2.2.2.1, g.2.2.2.2.1.up ab, g.2.2.2.2.2⟩) (fun m a x w z g f => g.1.l f.c.l) ?_ ?_ h0 h1
  · intro w f1 f2 z0 z10 z17 t
    exact ⟨⟨fun c a _ => f1 c a, fun j a b c x y _ t => f2 j a b c x y t, fun k _ => by rw [f1 129 (by decide)], z0, z10⟩, t, ⟨z17, fun i hi => absurd hi (Nat.not_lt_zero _)⟩, fun l hl => absurd hl (Nat.not_lt_zero _), ⟨Nat.succ_pos _, fun i hi => absurd hi (Nat.not_lt_zero _), fun l hl => absurd hl (Nat.not_lt_zero _)⟩, rfl⟩
  · intro m a x w K hm g k0 k1
    obtain ⟨g1, g2, g3, g4, g5, g6⟩ := g
    refine tX12_readLine ?_
    refine r_letters g2 (fun w2 f2 l2 => ⟨rfl, ⟨fun _ => ⟨fun z => ?_, fun _ => ⟨fun _ => ?_, fun z => absurd rfl z⟩⟩, fun z => absurd rfl z⟩⟩)
    · rw [nI_lit, nI_leI (by omega) (by omega)] at z
      have z : 12 ≤ m := z
      omega
    · have N2 : rfN w2 x := by unfold rfN; rw [f2.1 129 (by decide)]; exact g4
      refine r_lawLine (n := m) l2 (g3.f f2) N2 g6 hm g5.1 (fun y f fy ef bf => ⟨_, rfl, fun _ => ⟨_, rfl, k0 f y ((g1.l f2.c.l).l fy) ef bf⟩, fun z => absurd rfl z⟩) (fun y c fy ec tc cc nc => ⟨_, rfl, fun z => absurd z (by decide), fun _ => ⟨_, rfl, k1 c y ec ?_⟩⟩)
      obtain ⟨o1, o2⟩ := lnS_ok g2.le.1 g5 ec
      exact ⟨(g1.l f2.c.l).l fy, tc, cc, nc, o2, by rw [o1, g6]⟩
  · intro a x w K g k0
    refine tX12_readLine ?_
    refine r_letters g.2.1 (fun w2 f2 l2 => ⟨rfl, ⟨fun _ => ⟨fun _ => ⟨_, rfl, k0 w2 (g.1.l f2.c.l) l2.2.1⟩, fun z => absurd (by decide) z⟩, fun z => absurd rfl z⟩⟩)
