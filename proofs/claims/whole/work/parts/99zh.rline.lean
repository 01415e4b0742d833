/-! a line of THE SUBURB, of the reference -/
theorem weB_i {B : Nat → Nat} {k a : Nat} : ∀ n, weB B k a n = true → ∀ i, i < n → nI (B (a + i)) = zTc (k - 2000) (nI i)
  | 0, _, i, h => absurd h (Nat.not_lt_zero _)
  | n + 1, e, i, h => by
    have e : (weB B k a n && decide (nI (B (a + n)) = zTc (k - 2000) (nI n))) = true := e
    rw [Bool.and_eq_true, decide_eq_true_eq] at e
    by_cases q : i = n
    · rw [q]; exact e.2
    · exact weB_i n e.1 i (by omega)
def zWdf (i j : Nat) : Bool := (List.range 6).any fun c => decide (c < zTn i) && !(decide ((zTxt.getD i []).getD c 0 = (zTxt.getD j []).getD c 0))
theorem zWdf_b : ∀ i, i < 33 → ∀ j, j < 33 → (Nat.beq i j || (!(Nat.beq (zTn i) (zTn j)) || zWdf i j)) = true := by decide +kernel
/-- of two words one stands there at most -/
theorem isW_dis {B : Nat → Nat} {L k k2 a : Nat} (hk : zStr k) (hk2 : zStr k2) (ne : k ≠ k2) (h : isW B L k a = true) : isW B L k2 a = false := by
  cases q : isW B L k2 a
  · rfl
  · exfalso
    unfold isW at h q
    rw [Bool.and_eq_true, decide_eq_true_eq] at h q
    have g := zWdf_b (k - 2000) (by have := hk.1; have := hk.2; omega) (k2 - 2000) (by have := hk2.1; have := hk2.2; omega)
    have n1 : Nat.beq (k - 2000) (k2 - 2000) = false := by
      cases z : Nat.beq (k - 2000) (k2 - 2000)
      · rfl
      · have := Nat.eq_of_beq_eq_true z
        have := hk.1; have := hk2.1; omega
    have n2 : Nat.beq (zTn (k - 2000)) (zTn (k2 - 2000)) = true := by
      rw [show zTn (k - 2000) = zTn (k2 - 2000) by omega]; exact Nat.beq_refl _
    rw [n1, n2, Bool.false_or, Bool.not_true, Bool.false_or] at g
    unfold zWdf at g
    rw [List.any_eq_true] at g
    obtain ⟨c, c1, c2⟩ := g
    rw [Bool.and_eq_true, decide_eq_true_eq] at c2
    have c6 := List.mem_range.mp c1
    have w1 := weB_i _ h.2 c c2.1
    have w2 := weB_i _ q.2 c (by omega)
    rw [w1] at w2
    have w2 : (zTxt.getD (k - 2000) []).getD (nI c).toNatClampNeg 0 = (zTxt.getD (k2 - 2000) []).getD (nI c).toNatClampNeg 0 := w2
    rw [nI_clamp (by omega)] at w2
    rw [decide_eq_true w2] at c2
    exact absurd c2.2 (by decide)
def rfF (u w : zM) : Prop := (∀ c, c ≠ 128 → c ≠ 129 → w c = u c) ∧ (∀ j, j ≠ 11 → j ≠ 13 → w 128 j = u 128 j) ∧ ∀ k, 475 ≤ k → w 129 k = u 129 k
theorem rfF.rf (u : zM) : rfF u u := ⟨fun _ _ _ => rfl, fun _ _ _ => rfl, fun _ _ => rfl⟩
theorem rfF.tr {u v w : zM} (h1 : rfF u v) (h2 : rfF v w) : rfF u w := ⟨fun c a b => (h2.1 c a b).trans (h1.1 c a b), fun j a b => (h2.2.1 j a b).trans (h1.2.1 j a b), fun k a => (h2.2.2 k a).trans (h1.2.2 k a)⟩
theorem rkF.r {u w : zM} (h : rkF u w) : rfF u w := ⟨fun c a _ => h.1 c a, h.2, fun k _ => by rw [h.1 129 (by decide)]⟩
theorem rfF.up {u w : zM} (h : rfF u w) (j : Nat) (v : Int32) (hj : j < 475 := by omega) : rfF u (zUp w 129 j v) := ⟨fun c a b => (zUp_k _ _ b).trans (h.1 c a b), fun j a b => (zUp_kj _ _ (by decide)).trans (h.2.1 j a b), fun k a => (zUp_j _ _ (by omega)).trans (h.2.2 k a)⟩
theorem rkA.up {u : zM} {B : Nat → Nat} {L a : Nat} (h : rkA u B L a) (j : Nat) (v : Int32) : rkA (zUp u 129 j v) B L a := h.congr (zUp_kj _ _ (by decide)) (zUp_kj _ _ (by decide)) (zUp_k _ _ (by decide))
theorem r_readNumber {d L b hi j : Nat} {B : Nat → Nat} {a1 a2 a3 : Int32} {u : zM} {Q : Option Value → zM → Prop} (e1 : a1 = nI j) (hj : j < 475) (e2 : a2 = nI 0) (e3 : a3 = nI hi) (hh : hi ≤ 999) (hU : rkA u B L b)
    (H0 : ∀ w, rfF u w → nuK B L 0 hi 1000 b = false → w 128 13 = nI b → Q (some (.int 0)) w)
    (H1 : ∀ w, rfF u w → nuK B L 0 hi 1000 b = true → rkA w B L (nxB B L b) → w 129 = upd (u 129) j (nI (nuV B L b)) → Q (some (.int 1)) w) : zCall (d + 5) false 214 [.ref 128, .int a1, .int a2, .int a3] u Q := by
  subst e1
  refine tX12_readNumber ?_
  rw [nI_clamp (n := j) (by omega)]
  refine r_number (ex := 1000) e2 e3 (Nat.zero_le _) hh (by decide) hU (fun w f w13 k t => ⟨_, rfl, ?_⟩) (fun w f w13 k => ⟨_, rfl, ?_⟩)
  · have vb := of_decide_eq_true k
    have := nuV_b vb.1 vb.2.1 vb.2.2.1
    refine ⟨fun _ => ⟨vp_in_nI (by omega) (by decide), fun z => absurd z (nI_pos (by omega)), fun _ => ?_⟩, fun z => absurd (nI_pos' (by omega)) z⟩
    exact H1 _ (f.r.up _ _) k (t.up _ _) (by rw [zUp_row, f.1 129 (by decide)])
  · refine ⟨fun z => absurd z (by decide), fun _ => ⟨vp_in_nI (by omega) (by decide), vp_in_nI (by omega) (by decide), fun _ => ?_, fun z => absurd (by decide) z⟩⟩
    exact H0 _ (f.r.up _ _) k ((zUp_kj _ _ (by decide)).trans w13)
theorem nxN_t {B : Nat → Nat} {L k a : Nat} (h : isW B L k a = true) : nxN B L k (.inr a) = .inr (nxB B L a) := by show (if isW B L k a = true then _ else _) = _; rw [h, if_pos rfl]
theorem nxN_f {B : Nat → Nat} {L k a : Nat} (h : isW B L k a = false) : nxN B L k (.inr a) = .inl a := by show (if isW B L k a = true then _ else _) = _; rw [h, if_neg (by decide)]
theorem nxW_t {B : Nat → Nat} {L k a : Nat} (h : isW B L k a = true) : nxW B L k (.inr a) = .inr (nxB B L a) := by show (if isW B L k a = true then _ else _) = _; rw [h, if_pos rfl]
theorem nxM_t {B : Nat → Nat} {L lo hi ex a : Nat} (h : nuK B L lo hi ex a = true) : nxM B L lo hi ex (.inr a) = .inr (nxB B L a) := by show (if nuK B L lo hi ex a = true then _ else _) = _; rw [h, if_pos rfl]
theorem nxM_f {B : Nat → Nat} {L lo hi ex a : Nat} (h : nuK B L lo hi ex a = false) : nxM B L lo hi ex (.inr a) = .inl a := by show (if nuK B L lo hi ex a = true then _ else _) = _; rw [h, if_neg (by decide)]
theorem nvM_t {B : Nat → Nat} {L lo hi ex a : Nat} (h : nuK B L lo hi ex a = true) : nvM B L lo hi ex (.inr a) = nuV B L a := by show (if nuK B L lo hi ex a = true then _ else _) = _; rw [h, if_pos rfl]
theorem nxO_t {B : Nat → Nat} {L k hi a : Nat} (h : isW B L k a = true) : nxO B L k hi (.inr a) = nxM B L 0 hi 1000 (.inr (nxB B L a)) := by
  unfold nxO
  rw [show sIs B L k (.inr a) = true from h, if_pos rfl, nxW_t h]
theorem nxO_f {B : Nat → Nat} {L k hi a : Nat} (h : isW B L k a = false) : nxO B L k hi (.inr a) = .inr a := by
  unfold nxO
  rw [show sIs B L k (.inr a) = false from h, if_neg (by decide)]
theorem upd_id (v : Nat → Int32) (w : Nat) : upd v w (v w) = v := by
  funext j
  unfold upd
  by_cases q : j = w
  · rw [if_pos q, q]
  · rw [if_neg q]
theorem r_opt {d k L hi w c : Nat} {B : Nat → Nat} {v : Nat → Int32} {a2 a3 a4 : Int32} {u : zM} {Q : Option Value → zM → Prop} (hk : zLtw k = true) (e2 : a2 = nI 0) (e3 : a3 = nI hi) (hh : hi ≤ 999) (e4 : a4 = v w) (h4 : ¬ a4 = 1000000) (hU : rkA u B L c)
    (H0 : ∀ m f, rkF u m → nxO B L k hi (.inr c) = .inl f → m 128 13 = nI f → Q (some (.int 1000000)) m)
    (H1 : ∀ m c' x, rkF u m → nxO B L k hi (.inr c) = .inr c' → rkA m B L c' → vO B L k hi w (.inr c) v = upd v w x → ¬ x = 1000000 → Q (some (.int x)) m) : zCall (d + 5) false 211 [.ref 128, .ref k, .int a2, .int a3, .int a4] u Q := by
  refine r_told (ex := 1000) hk e2 e3 (Nat.zero_le _) hh (by decide) hU (fun m f q n t => ?_) (fun m f q t => ?_) (fun m f q n b => ?_)
  · have vb := of_decide_eq_true n
    have := nuV_b vb.1 vb.2.1 vb.2.2.1
    refine H1 m _ _ f (by rw [nxO_t q, nxM_t n]) t ?_ (nI_ne (b := 1000000) (by omega) (by decide) (by omega))
    unfold vO
    rw [show sIs B L k (.inr c) = true from q, if_pos rfl, nxW_t q, nvM_t n]
  · refine H1 m _ _ f (nxO_f q) t ?_ h4
    unfold vO
    rw [show sIs B L k (.inr c) = false from q, if_neg (by decide), e4, upd_id]
  · exact H0 m _ f (by rw [nxO_t q, nxM_f n]) b
theorem ix_b {n : Nat} {w : Nat} {z : Int32} (e : z = nI w) : ((163 : Int32) + (9 * nI n)) + z = nI (163 + 9 * n + w) := by
  rw [e, nI_lit, nI_lit, nI_mul, nI_add, nI_add]
theorem stW_row {W : Nat → Int32} {n : Nat} (c cr x3 x4 x5 dg : Int32) (hn : n < 8) : upd (upd (upd (upd (upd (upd (upd (upd (zrW W (163 + 9 * n) 9) (163 + 9 * n + 0) c) (163 + 9 * n + 2) cr) (163 + 9 * n + 1) x3) (163 + 9 * n + 3) x4) (163 + 9 * n + 7) x5) (163 + 9 * n + 8) dg) (155 + n) (nI n)) 0 (nI (n + 1)) = stW W n (upd (upd (upd (upd (upd (v0 c) 2 cr) 1 x3) 3 x4) 7 x5) 8 dg) := by
  funext j
  unfold stW
  by_cases q0 : j = 0
  · rw [if_pos q0, q0, upd_at]
  · rw [if_neg q0, upd_ne _ _ q0]
    by_cases q1 : j = 155 + n
    · rw [if_pos q1, q1, upd_at]
    · rw [if_neg q1, upd_ne _ _ q1]
      by_cases q2 : 163 + 9 * n ≤ j ∧ j < 163 + 9 * n + 9
      · rw [if_pos q2]
        obtain ⟨t, ht, ej⟩ : ∃ t, t < 9 ∧ j = 163 + 9 * n + t := ⟨j - (163 + 9 * n), by omega, by omega⟩
        subst ej
        rw [show 163 + 9 * n + t - (163 + 9 * n) = t by omega]
        have z : zrW W (163 + 9 * n) 9 (163 + 9 * n + t) = 0 := by unfold zrW; rw [if_pos (by omega)]
        have one : ∀ (f g : Nat → Int32) (a : Nat) (x : Int32), f (163 + 9 * n + t) = g t → upd f (163 + 9 * n + a) x (163 + 9 * n + t) = upd g a x t := fun f g a x e => by
          by_cases y : t = a
          · rw [y, upd_at, upd_at]
          · rw [upd_ne _ _ (by omega), upd_ne _ _ y, e]
        by_cases y : t = 7
        · rw [y, upd_ne _ _ (by omega), upd_at, upd_ne _ _ (by omega), upd_at]
        · refine one _ _ 8 dg (one _ _ 7 x5 (one _ _ 3 x4 (one _ _ 1 x3 (one _ _ 2 cr ?_))))
          unfold v0
          rw [upd_ne _ _ y]
          exact one _ _ 0 c z
      · rw [if_neg q2, upd_ne _ _ (by omega), upd_ne _ _ (by omega), upd_ne _ _ (by omega), upd_ne _ _ (by omega), upd_ne _ _ (by omega), upd_ne _ _ (by omega)]
        unfold zrW
        rw [if_neg q2]
set_option maxHeartbeats 4000000 in
theorem r_readStep {d L n b : Nat} {B : Nat → Nat} {σ : Nat ⊕ Nat} {u : zM} {Q : Option Value → zM → Prop} (hn : n < 8) (hW : u 129 0 = nI n) (hb : nxN B L 2001 σ = .inr b) (hU : rkA u B L b)
    (H0 : ∀ w f, rfF u w → p7 B L σ = .inl f → w 128 13 = nI f → Q (some (.int 0)) w)
    (H1 : ∀ w c, rfF u w → p7 B L σ = .inr c → rkA w B L c → w 129 = stW (u 129) n (v5 B L σ) → Q (some (.int 1)) w) : zCall (d + 6) false 215 [.ref 128] u Q := by
  have e1 : p1 B L σ = nxN B L 2009 (.inr b) := by unfold p1; rw [hb]
  refine tX12_readStep ⟨fun _ => ?_, fun z => absurd z (by rw [hW]; exact nI_ne (b := 8) (by omega) (by decide) (by omega))⟩
  refine r_after (ex := 1000) (lo := 0) (hi := 11) (by decide +kernel) rfl rfl (by decide) (by decide) (by decide) hU (fun w1 f1 q1 n1 t1 => ⟨_, rfl, ?_⟩) (fun w1 f1 q1 b1 => ⟨_, rfl, fun z => absurd z (by decide), fun _ => H0 w1 b f1.r ?_ b1⟩) (fun w1 f1 q1 n1 b1 => ⟨_, rfl, fun z => absurd z (by decide), fun _ => H0 w1 _ f1.r ?_ b1⟩)
  rotate_left
  · unfold p7 p6 p5 p4 p3 p2; rw [e1, nxN_f q1]; rfl
  · unfold p7 p6 p5 p4 p3 p2; rw [e1, nxN_t q1, nxM_f n1]; rfl
  have e1 : p1 B L σ = .inr (nxB B L b) := by rw [e1, nxN_t q1]
  have vb1 := of_decide_eq_true n1
  obtain ⟨xc, hxc⟩ : ∃ xc, xc = nuV B L (nxB B L b) := ⟨_, rfl⟩
  have c1 : xc ≤ 11 := by rw [hxc]; exact vb1.2.2.2.2.1
  have g1 : nvM B L 0 11 1000 (p1 B L σ) = xc := by rw [e1, nvM_t n1, hxc]
  have e2 : p2 B L σ = nxN B L 2010 (.inr (nxB B L (nxB B L b))) := by unfold p2; rw [e1, nxM_t n1]
  rw [← hxc]
  refine ⟨fun _ => ?_, fun z => absurd (nI_pos' (by omega)) z⟩
  refine r_after (ex := 1000) (lo := 0) (hi := 999) (by decide +kernel) rfl rfl (by decide) (by decide) (by decide) t1 (fun w2 f2 q2 n2 t2 => ⟨_, rfl, ?_⟩) (fun w2 f2 q2 b2 => ⟨_, rfl, fun z => absurd z (by decide), fun _ => H0 w2 _ (f1.tr f2).r ?_ b2⟩) (fun w2 f2 q2 n2 b2 => ⟨_, rfl, fun z => absurd z (by decide), fun _ => H0 w2 _ (f1.tr f2).r ?_ b2⟩)
  rotate_left
  · unfold p7 p6 p5 p4 p3; rw [e2, nxN_f q2]; rfl
  · unfold p7 p6 p5 p4 p3; rw [e2, nxN_t q2, nxM_f n2]; rfl
  obtain ⟨c2, hc2⟩ : ∃ c2, c2 = nxB B L (nxB B L (nxB B L b)) := ⟨_, rfl⟩
  rw [← hc2] at n2 t2
  have vb2 := of_decide_eq_true n2
  have e2 : p2 B L σ = .inr c2 := by rw [e2, nxN_t q2, hc2]
  obtain ⟨xr, hxr⟩ : ∃ xr, xr = nuV B L c2 := ⟨_, rfl⟩
  have c2b : xr ≤ 999 := by rw [hxr]; exact vb2.2.2.2.2.1
  have g2 : nvM B L 0 999 1000 (p2 B L σ) = xr := by rw [e2, nvM_t n2, hxr]
  have e3 : p3 B L σ = .inr (nxB B L c2) := by unfold p3; rw [e2, nxM_t n2]
  rw [← hc2, ← hxr]
  refine ⟨fun _ => ?_, fun z => absurd (nI_pos' (by omega)) z⟩
  have V1 : v1 B L σ = upd (v0 (nI xc)) 2 (nI xr) := by unfold v1; rw [g1, g2]
  refine r_opt (w := 1) (hi := 3) (v := v1 B L σ) (by decide +kernel) rfl rfl (by decide) (by rw [V1]; rfl) (by decide) t2 (fun w3 f f3 q3 b3 => ⟨_, rfl, fun z => absurd rfl z, fun _ => H0 w3 f (f1.tr (f2.tr f3)).r ?_ b3⟩) (fun w3 c3 x3 f3 q3 t3 u3 m3 => ⟨_, rfl, fun _ => ?_, fun z => absurd z m3⟩)
  · unfold p7 p6 p5 p4; rw [e3, q3]; rfl
  have e4 : p4 B L σ = .inr c3 := by unfold p4; rw [e3, q3]
  refine r_opt (w := 3) (hi := 9) (v := upd (v1 B L σ) 1 x3) (by decide +kernel) rfl rfl (by decide) (by rw [V1]; rfl) (by decide) t3 (fun w4 f f4 q4 b4 => ⟨_, rfl, fun z => absurd rfl z, fun _ => H0 w4 f (f1.tr (f2.tr (f3.tr f4))).r ?_ b4⟩) (fun w4 c4 x4 f4 q4 t4 u4 m4 => ⟨_, rfl, fun _ => ?_, fun z => absurd z m4⟩)
  · unfold p7 p6 p5; rw [e4, q4]; rfl
  have e5 : p5 B L σ = .inr c4 := by unfold p5; rw [e4, q4]
  refine r_opt (w := 7) (hi := 6) (v := upd (upd (v1 B L σ) 1 x3) 3 x4) (by decide +kernel) rfl rfl (by decide) (by rw [V1]; rfl) (by decide) t4 (fun w5 f f5 q5 b5 => ⟨_, rfl, fun z => absurd rfl z, fun _ => H0 w5 f (f1.tr (f2.tr (f3.tr (f4.tr f5)))).r ?_ b5⟩) (fun w5 c5 x5 f5 q5 t5 u5 m5 => ⟨_, rfl, fun _ => ?_, fun z => absurd z m5⟩)
  · unfold p7 p6; rw [e5, q5]; rfl
  have e6 : p6 B L σ = .inr c5 := by unfold p6; rw [e5, q5]
  have V4 : v4 B L σ = upd (upd (upd (upd (v0 (nI xc)) 2 (nI xr)) 1 x3) 3 x4) 7 x5 := by
    unfold v4
    rw [e5, e4, e3, u3, u4, u5, V1]
  have F5 := f1.tr (f2.tr (f3.tr (f4.tr f5)))
  have w9 : w5 129 = u 129 := F5.1 129 (by decide)
  rw [hW]
  refine zFor (σ := zM) (Pr := fun i x => zRun (d + 5) false zcX12_readStep 2 Q 119 [(0, .ref 128), (1, .int (nI n)), (2, .int (nI xc)), (3, .int (nI xr)), (4, .int x3), (5, .int x4), (6, .int x5), (7, .int (nI i))] [] x) (fun i x => rfF u x ∧ rkA x B L c5 ∧ x 129 = zrW (u 129) (163 + 9 * n) i) 9 (fun x hx => ?_) (fun i x hi hx ih => ?_) w5 ⟨F5.r, t5, by rw [zrW_0]; exact w9⟩
  · obtain ⟨h1, h2, h3⟩ := hx
    refine tX12_readStep_119 (br_t (by decide) ?_)
    rw [ix_b (w := 0) (z := 0) rfl, ix_b (w := 2) (z := 2) rfl, ix_b (w := 1) (z := 1) rfl, ix_b (w := 3) (z := 3) rfl, ix_b (w := 7) (z := 7) rfl, ix_b (w := 8) (z := 8) rfl, show (155 : Int32) + nI n = nI (155 + n) by rw [nI_lit, nI_add]]
    rw [ix_c hn (by decide), ix_c hn (by decide), ix_c hn (by decide), ix_c hn (by decide), ix_c hn (by decide), ix_c hn (by decide), nI_clamp (n := 155 + n) (by omega)]
    refine ⟨ix_v hn (by decide), fun m1 i1 => ⟨ix_v hn (by decide), fun m2 i2 => ⟨ix_v hn (by decide), fun m3 i3 => ⟨ix_v hn (by decide), fun m4 i4 => ⟨ix_v hn (by decide), fun m5 i5 => ?_⟩⟩⟩⟩⟩
    have F : rfF u m5 := by rw [i5, i4, i3, i2, i1]; exact ((((h1.up _ _).up _ _).up _ _).up _ _).up _ _
    have T : rkA m5 B L c5 := by rw [i5, i4, i3, i2, i1]; exact ((((h2.up _ _).up _ _).up _ _).up _ _).up _ _
    have R : m5 129 = upd (upd (upd (upd (upd (zrW (u 129) (163 + 9 * n) 9) (163 + 9 * n + 0) (nI xc)) (163 + 9 * n + 2) (nI xr)) (163 + 9 * n + 1) x3) (163 + 9 * n + 3) x4) (163 + 9 * n + 7) x5 := by
      rw [i5, zUp_row, i4, zUp_row, i3, zUp_row, i2, zUp_row, i1, zUp_row, h3]
    refine r_passes (by decide +kernel) T (fun w6 f6 b6 t6 => ⟨_, rfl, ?_⟩)
    have W6 : w6 129 = m5 129 := f6.1 129 (by decide)
    have F6 := F.tr f6.r
    have dead : p7 B L σ = .inr (if isW B L 2014 c5 = true then nxB B L c5 else c5) := by
      unfold p7; rw [e6]
      show (if isW B L 2014 c5 = true then _ else _) = _
      split <;> rfl
    have V5 : v5 B L σ = if isW B L 2014 c5 = true then upd (v4 B L σ) 8 1 else v4 B L σ := by unfold v5; rw [e6]; rfl
    cases q : isW B L 2014 c5
    · rw [q, if_neg (by decide)] at dead V5 t6
      refine ⟨fun _ => ⟨ix_v hn (by decide), fun m8 i8 => ⟨vp_in_nI (by omega) (by decide), fun m9 i9 => ?_⟩⟩, fun z => absurd rfl z⟩
      refine H1 _ c5 ?_ dead ?_ ?_
      · rw [i9, i8]; exact ((F6.up _ _).up _ _).up _ _
      · rw [i9, i8]; exact ((t6.up _ _).up _ _).up _ _
      · rw [zUp_row, i9, zUp_row, i8, zUp_row, W6, R]
        have e0 : upd (upd (upd (upd (upd (upd (upd (zrW (u 129) (163 + 9 * n) 9) (163 + 9 * n + 0) (nI xc)) (163 + 9 * n + 2) (nI xr)) (163 + 9 * n + 1) x3) (163 + 9 * n + 3) x4) (163 + 9 * n + 7) x5) (163 + 9 * n + 8) 0) (155 + n) (nI n) 0 = nI n := by
          rw [upd_ne _ _ (by omega), upd_ne _ _ (by omega), upd_ne _ _ (by omega), upd_ne _ _ (by omega), upd_ne _ _ (by omega), upd_ne _ _ (by omega), upd_ne _ _ (by omega)]
          unfold zrW
          rw [if_neg (by omega), hW]
        rw [e0, nI_1 n, V5, V4, stW_row _ _ _ _ _ _ hn]
        congr 1
        have z8 : upd (upd (upd (upd (v0 (nI xc)) 2 (nI xr)) 1 x3) 3 x4) 7 x5 8 = 0 := rfl
        rw [← z8, upd_id]
    · rw [q, if_pos rfl] at dead V5 t6
      refine ⟨fun z => absurd z (by decide), fun _ => ⟨ix_v hn (by decide), fun m8 i8 => ⟨vp_in_nI (by omega) (by decide), fun m9 i9 => ?_⟩⟩⟩
      refine H1 _ (nxB B L c5) ?_ dead ?_ ?_
      · rw [i9, i8]; exact ((F6.up _ _).up _ _).up _ _
      · rw [i9, i8]; exact ((t6.up _ _).up _ _).up _ _
      · rw [zUp_row, i9, zUp_row, i8, zUp_row, W6, R]
        have e0 : upd (upd (upd (upd (upd (upd (upd (zrW (u 129) (163 + 9 * n) 9) (163 + 9 * n + 0) (nI xc)) (163 + 9 * n + 2) (nI xr)) (163 + 9 * n + 1) x3) (163 + 9 * n + 3) x4) (163 + 9 * n + 7) x5) (163 + 9 * n + 8) 1) (155 + n) (nI n) 0 = nI n := by
          rw [upd_ne _ _ (by omega), upd_ne _ _ (by omega), upd_ne _ _ (by omega), upd_ne _ _ (by omega), upd_ne _ _ (by omega), upd_ne _ _ (by omega), upd_ne _ _ (by omega)]
          unfold zrW
          rw [if_neg (by omega), hW]
        rw [e0, nI_1 n, V5, V4, stW_row _ _ _ _ _ _ hn]
  · obtain ⟨h1, h2, h3⟩ := hx
    refine tX12_readStep_119 (br_f (by rw [nI_lit, nI_leI (by omega) (by omega)]; show ¬ 9 ≤ i; omega) ?_)
    rw [ix_b (w := i) rfl, nI_clamp (n := 163 + 9 * n + i) (by omega), nI_1 i]
    refine ⟨vp_in_nI (by omega) (by decide), ih _ ⟨h1.up _ _, h2.up _ _, ?_⟩⟩
    rw [zUp_row, h3, zrW_up]
