theorem nuK_ex {B : Nat → Nat} {L lo hi ex a : Nat} (hh : hi ≤ 999) : nuK B L lo hi ex a = (nuK B L lo hi 1000 a && decide (nuV B L a ≠ ex)) := by
  unfold nuK
  by_cases q : a < L ∧ soB (B a) = 1 ∧ teB B L a ≤ a + 3 ∧ lo ≤ nuV B L a ∧ nuV B L a ≤ hi
  · obtain ⟨a1, a2, a3, a4, a5⟩ := q
    rw [decide_eq_true (p := a < L ∧ soB (B a) = 1 ∧ teB B L a ≤ a + 3 ∧ lo ≤ nuV B L a ∧ nuV B L a ≤ hi ∧ nuV B L a ≠ 1000) ⟨a1, a2, a3, a4, a5, by omega⟩, Bool.true_and]
    by_cases z : nuV B L a = ex
    · rw [decide_eq_false (fun y => y.2.2.2.2.2 z), decide_eq_false (fun y => y z)]
    · rw [decide_eq_true ⟨a1, a2, a3, a4, a5, z⟩, decide_eq_true z]
  · rw [decide_eq_false (fun y => q ⟨y.1, y.2.1, y.2.2.1, y.2.2.2.1, y.2.2.2.2.1⟩), decide_eq_false (fun y => q ⟨y.1, y.2.1, y.2.2.1, y.2.2.2.1, y.2.2.2.2.1⟩), Bool.false_and]
theorem r_readRoad {d L b : Nat} {B : Nat → Nat} {u : zM} {Q : Option Value → zM → Prop} (hU : rkA u B L b)
    (H0 : ∀ w f, rfF u w → (rdL B L (.inr b) (u 129)).1 = .inl f → w 128 13 = nI f → Q (some (.int 0)) w)
    (H1 : ∀ w c, rfF u w → (rdL B L (.inr b) (u 129)).1 = .inr c → rkA w B L c → w 129 = (rdL B L (.inr b) (u 129)).2 → Q (some (.int 1)) w) : zCall (d + 6) false 216 [.ref 128] u Q := by
  have H0 : ∀ w f, rfF u w → rd4 B L (.inr b) = .inl f → w 128 13 = nI f → Q (some (.int 0)) w := H0
  refine tX12_readRoad ?_
  refine r_number (ex := 1000) (lo := 0) (hi := 11) rfl rfl (by decide) (by decide) (by decide) hU (fun w1 f1 b1 n1 t1 => ⟨_, rfl, ?_⟩) (fun w1 f1 b1 n1 => ⟨_, rfl, fun z => absurd z (by decide), fun _ => H0 w1 b f1.r ?_ b1⟩)
  rotate_left
  · unfold rd4 rd3 rd2 rd1; rw [nxM_f n1]; rfl
  have vb1 := of_decide_eq_true n1
  obtain ⟨xa, hxa⟩ : ∃ xa, xa = nuV B L b := ⟨_, rfl⟩
  obtain ⟨c1, hc1⟩ : ∃ c1, c1 = nxB B L b := ⟨_, rfl⟩
  have a11 : xa ≤ 11 := by rw [hxa]; exact vb1.2.2.2.2.1
  have gA : rdA B L (.inr b) = xa := by unfold rdA; rw [nvM_t n1, hxa]
  have g1 : rd1 B L (.inr b) = .inr c1 := by unfold rd1; rw [nxM_t n1, hc1]
  rw [← hc1] at t1
  rw [← hxa]
  refine ⟨fun _ => ?_, fun z => absurd (nI_pos' (by omega)) z⟩
  have e2 : rd2 B L (.inr b) = nxM B L 0 11 xa (.inr c1) := by unfold rd2; rw [gA, g1]
  refine r_number (ex := 1000) (lo := 0) (hi := 11) rfl rfl (by decide) (by decide) (by decide) t1 (fun w2 f2 b2 n2 t2 => ⟨_, rfl, ?_⟩) (fun w2 f2 b2 n2 => ⟨_, rfl, fun _ => H0 w2 c1 (f1.tr f2).r ?_ b2, fun z => absurd (by decide) z⟩)
  rotate_left
  · unfold rd4 rd3; rw [e2, nxM_f (by rw [nuK_ex (by decide), n2, Bool.false_and])]; rfl
  have vb2 := of_decide_eq_true n2
  obtain ⟨xb, hxb⟩ : ∃ xb, xb = nuV B L c1 := ⟨_, rfl⟩
  obtain ⟨c2, hc2⟩ : ∃ c2, c2 = nxB B L c1 := ⟨_, rfl⟩
  have b11 : xb ≤ 11 := by rw [hxb]; exact vb2.2.2.2.2.1
  rw [← hxb]
  refine ⟨fun z => absurd z (nI_pos (by omega)), fun _ => ⟨fun z => ?_, fun z => ?_⟩⟩
  · rw [nI_eq (by omega) (by omega)] at z
    have n3 : nuK B L 0 11 xa c1 = true := by rw [nuK_ex (by decide), n2, Bool.true_and, ← hxb]; exact decide_eq_true (fun y => z y.symm)
    have e2 : rd2 B L (.inr b) = .inr c2 := by rw [e2, nxM_t n3, hc2]
    have gB : rdB B L (.inr b) = xb := by unfold rdB; rw [gA, g1, nvM_t n3, hxb]
    have e3 : rd3 B L (.inr b) = nxN B L 2015 (.inr c2) := by unfold rd3; rw [e2]
    rw [← hc2] at t2
    refine r_after (ex := 1000) (lo := 1) (hi := 9) (by decide +kernel) rfl rfl (by decide) (by decide) (by decide) t2 (fun w3 f3 q3 n4 t3 => ⟨_, rfl, ?_⟩) (fun w3 f3 q3 b3 => ⟨_, rfl, fun z => absurd z (by decide), fun _ => H0 w3 _ (f1.tr (f2.tr f3)).r ?_ b3⟩) (fun w3 f3 q3 n4 b3 => ⟨_, rfl, fun z => absurd z (by decide), fun _ => H0 w3 _ (f1.tr (f2.tr f3)).r ?_ b3⟩)
    rotate_left
    · unfold rd4; rw [e3, nxN_f q3]; rfl
    · unfold rd4; rw [e3, nxN_t q3, nxM_f n4]
    have vb4 := of_decide_eq_true n4
    obtain ⟨xl, hxl⟩ : ∃ xl, xl = nuV B L (nxB B L c2) := ⟨_, rfl⟩
    have l9 : xl ≤ 9 := by rw [hxl]; exact vb4.2.2.2.2.1
    rw [← hxl]
    refine ⟨fun _ => ?_, fun z => absurd (nI_pos' (by omega)) z⟩
    have ixr : ∀ p q : Nat, ((11 : Int32) + (12 * nI p)) + nI q = nI (11 + 12 * p + q) := fun p q => by rw [nI_lit, nI_lit, nI_mul, nI_add, nI_add]
    rw [ixr, ixr, nI_clamp (n := 11 + 12 * xa + xb) (by omega), nI_clamp (n := 11 + 12 * xb + xa) (by omega)]
    have F := (f1.tr (f2.tr f3)).r
    have e3 : rd3 B L (.inr b) = .inr (nxB B L c2) := by rw [e3, nxN_t q3]
    refine ⟨vp_in_nI (by omega) (by decide), fun m7 e7 => ⟨vp_in_nI (by omega) (by decide), H1 _ (nxB B L (nxB B L c2)) ?_ ?_ ?_ ?_⟩⟩
    · rw [e7]; exact (F.up _ _).up _ _
    · show rd4 B L (.inr b) = _
      unfold rd4; rw [e3, nxM_t n4]
    · rw [e7]; exact (t3.up _ _).up _ _
    · show _ = rdW (u 129) (rdA B L (.inr b)) (rdB B L (.inr b)) (nI (nvM B L 1 9 1000 (rd3 B L (.inr b))))
      rw [gA, gB, e3, nvM_t n4, zUp_row, e7, zUp_row, (f1.tr (f2.tr f3)).1 129 (by decide), ← hxl]
      rfl
  · rw [nI_eq (by omega) (by omega)] at z
    refine H0 w2 c1 (f1.tr f2).r ?_ b2
    have n3 : nuK B L 0 11 xa c1 = false := by rw [nuK_ex (by decide), n2, Bool.true_and, ← hxb]; exact decide_eq_false (fun y => y z.symm)
    unfold rd4 rd3; rw [e2, nxM_f n3]; rfl
theorem plN_t {B : Nat → Nat} {L k hi j a : Nat} {W : Nat → Int32} {r : (Nat ⊕ Nat) × (Nat → Int32)} (h : isW B L k a = true) : plN B L k hi j (.inr a) W r = (nxM B L 0 hi 1000 (.inr (nxB B L a)), upd W j (nI (nvM B L 0 hi 1000 (.inr (nxB B L a))))) := by
  unfold plN
  rw [show sIs B L k (.inr a) = true from h, if_pos rfl, nxW_t h]
theorem plN_f {B : Nat → Nat} {L k hi j a : Nat} {W : Nat → Int32} {r : (Nat ⊕ Nat) × (Nat → Int32)} (h : isW B L k a = false) : plN B L k hi j (.inr a) W r = r := by
  unfold plN
  rw [show sIs B L k (.inr a) = false from h, if_neg (by decide)]
/-- what a line's reading leaves, of the reference -/
def rlP (u : zM) (B : Nat → Nat) (L : Nat) (r : (Nat ⊕ Nat) × (Nat → Int32)) (x : Int32) (w : zM) : Prop := rfF u w ∧ ((∃ f, r.1 = .inl f ∧ w 128 13 = nI f ∧ x = 0) ∨ ∃ c, r.1 = .inr c ∧ rkA w B L c ∧ w 129 = r.2 ∧ x = 1)
theorem rlP.b {u w : zM} {B : Nat → Nat} {L : Nat} {r : (Nat ⊕ Nat) × (Nat → Int32)} {x : Int32} (h : rlP u B L r x w) : x = 0 ∨ x = 1 := by
  rcases h.2 with ⟨f, -, -, e⟩ | ⟨c, -, -, -, e⟩
  · exact Or.inl e
  · exact Or.inr e
theorem rl_num {d L a k hi j : Nat} {B : Nat → Nat} {aj ah : Int32} {r : (Nat ⊕ Nat) × (Nat → Int32)} {u : zM} {K : Int32 → zM → Prop} {A : zM → Prop} (hk : zLtw k = true) (ej : aj = nI j) (hj : j < 475) (eh : ah = nI hi) (hh : hi ≤ 999) (hU : rkL u B L a)
    (h1 : isW B L k a = true → ∀ x w, rlP u B L (plN B L k hi j (.inr a) (u 129) r) x w → K x w)
    (hA : isW B L k a = false → A u) :
    zCI (d + 5) 206 [.ref 128, .ref k] u fun x w1 => ((x = 0 → A w1) ∧ (¬ x = 0 → (zCI (d + 5) 214 [.ref 128, .int aj, .int 0, .int ah] w1 fun y w2 => K y w2))) := by
  refine r_isWord hk hU ⟨_, rfl, ?_⟩
  cases q : isW B L k a
  · exact ⟨fun _ => hA q, fun z => absurd rfl z⟩
  · refine ⟨fun z => absurd z (by decide), fun _ => ?_⟩
    have h1 := h1 q
    rw [plN_t q] at h1
    exact r_readNumber ej hj rfl eh hh (hU.nx hk q) (fun w f n b => ⟨_, rfl, h1 _ w ⟨f, Or.inl ⟨_, nxM_f n, b, rfl⟩⟩⟩) (fun w f n t e => ⟨_, rfl, h1 _ w ⟨f, Or.inr ⟨_, nxM_t n, t, by rw [nvM_t n]; exact e, rfl⟩⟩⟩)
set_option maxHeartbeats 2000000 in
theorem r_suburbLine {d L n a : Nat} {B : Nat → Nat} {u : zM} {Q : Option Value → zM → Prop} (hW : u 129 0 = nI n) (hn : n ≤ 8) (hU : rkL u B L a)
    (h : ∀ x w, rlP u B L (plL B L n (.inr a) (u 129)) x w → Q (some (.int x)) w) : zCall (d + 7) false 217 [.ref 128] u Q := by
  have ls : zLtw 2001 = true := by decide +kernel
  have lr : zLtw 2002 = true := by decide +kernel
  -- no word of these
  have none8 : (∀ k, 2003 ≤ k → k ≤ 2008 → isW B L k a = false) → plC B L (.inr a) (u 129) = (.inl a, u 129) := fun z => by
    unfold plC
    rw [plN_f (z 2003 (by decide) (by decide)), plN_f (z 2004 (by decide) (by decide)), plN_f (z 2005 (by decide) (by decide)), plN_f (z 2006 (by decide) (by decide)), plN_f (z 2007 (by decide) (by decide)), plN_f (z 2008 (by decide) (by decide))]
    rfl
  refine tX12_readSuburbLine ?_
  refine r_isWord ls hU ⟨_, rfl, ?_⟩
  cases q1 : isW B L 2001 a
  · refine ⟨fun _ => ?_, fun z => absurd rfl z⟩
    have e : plL B L n (.inr a) (u 129) = if isW B L 2002 a = true then rdL B L (nxW B L 2002 (.inr a)) (u 129) else plC B L (.inr a) (u 129) := by
      unfold plL
      rw [if_neg (fun z => by have z1 : isW B L 2001 a = true := z.1; rw [q1] at z1; cases z1)]
      rfl
    rw [e] at h
    refine r_isWord lr hU ⟨_, rfl, ?_⟩
    cases q2 : isW B L 2002 a
    · rw [q2, if_neg (by decide)] at h
      refine ⟨fun _ => ?_, fun z => absurd rfl z⟩
      refine rl_num (j := 4) (hi := 200) (K := fun x w => (x = 0 ∨ x = 1) ∧ Q (some (.int x)) w) (by decide +kernel) rfl (by decide) rfl (by decide) hU (fun q x w g => ⟨g.b, h x w (by unfold plC; exact g)⟩) (fun q3 => ?_)
      refine rl_num (j := 5) (hi := 99) (K := fun x w => (x = 0 ∨ x = 1) ∧ Q (some (.int x)) w) (by decide +kernel) rfl (by decide) rfl (by decide) hU (fun q x w g => ⟨g.b, h x w (by unfold plC; rw [plN_f q3]; exact g)⟩) (fun q4 => ?_)
      refine rl_num (j := 6) (hi := 20) (K := fun x w => (x = 0 ∨ x = 1) ∧ Q (some (.int x)) w) (by decide +kernel) rfl (by decide) rfl (by decide) hU (fun q x w g => ⟨g.b, h x w (by unfold plC; rw [plN_f q3, plN_f q4]; exact g)⟩) (fun q5 => ?_)
      refine rl_num (j := 7) (hi := 100) (K := fun x w => (x = 0 ∨ x = 1) ∧ Q (some (.int x)) w) (by decide +kernel) rfl (by decide) rfl (by decide) hU (fun q x w g => ⟨g.b, h x w (by unfold plC; rw [plN_f q3, plN_f q4, plN_f q5]; exact g)⟩) (fun q6 => ?_)
      refine rl_num (j := 8) (hi := 100) (K := fun x w => (x = 0 ∨ x = 1) ∧ Q (some (.int x)) w) (by decide +kernel) rfl (by decide) rfl (by decide) hU (fun q x w g => ⟨g.b, h x w (by unfold plC; rw [plN_f q3, plN_f q4, plN_f q5, plN_f q6]; exact g)⟩) (fun q7 => ?_)
      refine rl_num (j := 3) (hi := 999) (K := fun x w => (x = 0 → Q (some (.int 0)) w) ∧ (¬ x = 0 → Q (some (.int 1)) w)) (r := (sFl (.inr a), u 129)) (by decide +kernel) rfl (by decide) rfl (by decide) hU (fun q x w g => ?_) (fun q8 => ?_)
      · have g2 := h x w (by unfold plC; rw [plN_f q3, plN_f q4, plN_f q5, plN_f q6, plN_f q7]; exact g)
        rcases g.b with rfl | rfl
        · exact ⟨fun _ => g2, fun z => absurd rfl z⟩
        · exact ⟨fun z => absurd z (by decide), fun _ => g2⟩
      · refine h 0 u ⟨rfF.rf u, Or.inl ⟨a, ?_, hU.2.1, rfl⟩⟩
        rw [none8 (fun k k1 k2 => by
          have c : k = 2003 ∨ k = 2004 ∨ k = 2005 ∨ k = 2006 ∨ k = 2007 ∨ k = 2008 := by omega
          rcases c with rfl | rfl | rfl | rfl | rfl | rfl <;> assumption)]
    · rw [q2, if_pos rfl, nxW_t q2] at h
      refine ⟨fun z => absurd z (by decide), fun _ => ?_⟩
      exact r_readRoad (hU.nx lr q2) (fun w f g e b => ⟨_, rfl, Or.inl rfl, h _ w ⟨g, Or.inl ⟨f, e, b, rfl⟩⟩⟩) (fun w c g e t y => ⟨_, rfl, Or.inr rfl, h _ w ⟨g, Or.inr ⟨c, e, t, y, rfl⟩⟩⟩)
  · refine ⟨fun z => absurd z (by decide), fun _ => ?_⟩
    by_cases hn8 : n < 8
    · have e : plL B L n (.inr a) (u 129) = (p7 B L (.inr a), stW (u 129) n (v5 B L (.inr a))) := by unfold plL; rw [if_pos ⟨q1, hn8⟩]
      rw [e] at h
      exact r_readStep hn8 hW (nxN_t q1) (hU.nx ls q1) (fun w f g e b => ⟨_, rfl, Or.inl rfl, h _ w ⟨g, Or.inl ⟨f, e, b, rfl⟩⟩⟩) (fun w c g e t y => ⟨_, rfl, Or.inr rfl, h _ w ⟨g, Or.inr ⟨c, e, t, y, rfl⟩⟩⟩)
    · have dis : ∀ k, zStr k → k ≠ 2001 → isW B L k a = false := fun k hk ne => isW_dis (zLtw_s ls) hk (Ne.symm ne) q1
      have e : plL B L n (.inr a) (u 129) = (.inl a, u 129) := by
        unfold plL
        rw [if_neg (fun z => hn8 z.2), show sIs B L 2002 (.inr a) = false from dis 2002 ⟨by decide, by decide⟩ (by decide), if_neg (by decide)]
        exact none8 (fun k k1 k2 => dis k ⟨by omega, by omega⟩ (by omega))
      have en : n = 8 := by omega
      refine tX12_readStep ⟨fun z => absurd (by rw [hW, en]; rfl) z, fun _ => ⟨_, rfl, Or.inl rfl, h 0 u ⟨rfF.rf u, Or.inl ⟨a, by rw [e], hU.2.1, rfl⟩⟩⟩⟩
