/-! numbers of the class -/
def vlB (B : Nat → Nat) (a : Nat) : Nat → Nat
  | 0 => 0
  | n + 1 => vlB B a n * 10 + B (a + n) - 48
theorem soB_1 {b : Nat} (h : soB b = 1) : 48 ≤ b ∧ b ≤ 57 := by
  unfold soB inB at h
  split at h
  · omega
  · split at h
    · rename_i q; exact of_decide_eq_true q
    · omega
theorem soB_d {b : Nat} (h1 : 48 ≤ b) (h2 : b ≤ 57) : soB b = 1 := by
  unfold soB inB
  rw [decide_eq_false (by omega), if_neg (by decide), decide_eq_true (by omega), if_pos rfl]
theorem soB_0 {b : Nat} : soB b = 0 ↔ inB 97 122 b = true := by
  unfold soB
  split
  · rename_i q; exact ⟨fun _ => q, fun _ => rfl⟩
  · rename_i q
    refine ⟨fun z => ?_, fun z => absurd z q⟩
    split at z <;> omega
theorem vlB_b {B : Nat → Nat} {a : Nat} : ∀ n, (∀ i, i < n → 48 ≤ B (a + i) ∧ B (a + i) ≤ 57) → vlB B a n < 10 ^ n
  | 0, _ => by show 0 < 10 ^ 0; decide
  | n + 1, h => by
    have ih := vlB_b (B := B) (a := a) n (fun i hi => h i (by omega))
    have b := h n (by omega)
    have e : 10 ^ (n + 1) = 10 ^ n * 10 := Nat.pow_succ ..
    show vlB B a n * 10 + B (a + n) - 48 < 10 ^ (n + 1)
    rw [e]
    omega
def nuV (B : Nat → Nat) (L a : Nat) : Nat := vlB B a (teB B L a - a)
def nuK (B : Nat → Nat) (L lo hi ex a : Nat) : Bool := decide (a < L ∧ soB (B a) = 1 ∧ teB B L a ≤ a + 3 ∧ lo ≤ nuV B L a ∧ nuV B L a ≤ hi ∧ nuV B L a ≠ ex)
theorem nuV_b {B : Nat → Nat} {L a : Nat} (h1 : a < L) (h2 : soB (B a) = 1) (h3 : teB B L a ≤ a + 3) : nuV B L a ≤ 999 := by
  have t := teB_lt (B := B) h1
  have b := vlB_b (B := B) (a := a) (teB B L a - a) (fun i hi => soB_1 (by rw [teB_all h1 (by omega) (by omega)]; exact h2))
  have e : 10 ^ (teB B L a - a) ≤ 10 ^ 3 := Nat.pow_le_pow_right (by decide) (by omega)
  have e3 : 10 ^ 3 = 1000 := rfl
  unfold nuV
  omega
def nxM (B : Nat → Nat) (L lo hi ex : Nat) (σ : Nat ⊕ Nat) : Nat ⊕ Nat := match σ with
  | .inl f => .inl f
  | .inr a => if nuK B L lo hi ex a = true then .inr (nxB B L a) else .inl a
def nvM (B : Nat → Nat) (L lo hi ex : Nat) (σ : Nat ⊕ Nat) : Nat := match σ with
  | .inl _ => lo
  | .inr a => if nuK B L lo hi ex a = true then nuV B L a else lo
theorem nvM_b {B : Nat → Nat} {L lo hi ex : Nat} (hl : lo ≤ hi) (σ : Nat ⊕ Nat) : lo ≤ nvM B L lo hi ex σ ∧ nvM B L lo hi ex σ ≤ hi := by
  cases σ with
  | inl f => exact ⟨Nat.le_refl _, hl⟩
  | inr a =>
    show lo ≤ (if nuK B L lo hi ex a = true then nuV B L a else lo) ∧ (if nuK B L lo hi ex a = true then nuV B L a else lo) ≤ hi
    split
    · rename_i q
      have q := of_decide_eq_true q
      exact ⟨q.2.2.2.1, q.2.2.2.2.1⟩
    · exact ⟨Nat.le_refl _, hl⟩
theorem s_nid {d L a : Nat} {B : Nat → Nat} {u : zM} {Q : Option Value → zM → Prop} (hD : zDtx u B L) (ha : a ≤ L) (u3 : u 1 3 = nI a) (h : Q (some (.int (i01 (decide (a < L ∧ soB (B a) = 1))))) u) : zCall (d + 2) false 80 [.ref 1] u Q := by
  obtain ⟨h4, hL, hB⟩ := hD
  refine tX7_nextIsDigit (k0 := 1) rfl ?_
  by_cases q : a < L
  · obtain ⟨b1, b2⟩ := hB a q
    refine s_byteAt (k0 := 1) (i := a) (L := L) rfl u3 hL h4 q ⟨_, rfl, ?_⟩
    refine s_sortOf (b := B a) b2 b1 ⟨_, rfl, ?_⟩
    have so := soB_le (B a)
    refine ⟨fun z => ?_, fun z => ?_⟩
    · have n : ¬ soB (B a) = 1 := fun z2 => z (by rw [z2]; rfl)
      rw [decide_eq_false (fun z2 => n z2.2)] at h
      exact h
    · have z : nI (soB (B a)) = nI 1 := z
      rw [nI_eq (by omega) (by omega)] at z
      rw [decide_eq_true ⟨q, z⟩] at h
      exact h
  · refine s_byteAt1 (k0 := 1) (p := a) (L := L) rfl u3 hL h4 (by omega) (by omega) ⟨_, rfl, ?_⟩
    refine s_sortOf1 ⟨_, rfl, ?_⟩
    rw [decide_eq_false (fun z2 => q z2.1)] at h
    exact ⟨fun _ => h, fun z => absurd z (by decide)⟩
set_option maxHeartbeats 1000000 in
theorem s_number {d L lo hi ex : Nat} {B : Nat → Nat} {a1 a2 a3 : Int32} {σ : Nat ⊕ Nat} {u : zM} {Q : Option Value → zM → Prop} (e1 : a1 = nI lo) (e2 : a2 = nI hi) (hl : lo ≤ hi) (hh : hi ≤ 999) (hx : ∀ v, v ≤ 999 → (nI v = a3 ↔ v = ex)) (hU : tkS u B L σ)
    (h : ∀ w, tkF u w → tkS w B L (nxM B L lo hi ex σ) → Q (some (.int (nI (nvM B L lo hi ex σ)))) w) : zCall (d + 3) false 83 [.ref 1, .int a1, .int a2, .int a3] u Q := by
  subst e1; subst e2
  obtain ⟨a, ha, u3, u4⟩ := hU.at
  have hD := hU.dtx
  have hD' := hD
  obtain ⟨h4, hL, hB⟩ := hD'
  have t := teB_le (B := B) ha
  obtain ⟨te, hte⟩ : ∃ te, te = teB B L a := ⟨_, rfl⟩
  rw [← hte] at u4 t
  have e4 : u 1 4 - u 1 3 = nI (te - a) := by rw [u4, u3, nI_sub t.1]
  refine t2X7_number (k0 := 1) rfl ?_
  rw [e4, u3]
  -- where it fails
  have bad : (∀ w, tkF u w → tkS w B L (sFl σ) → Q (some (.int (nI lo))) w) → zCV (d + 2) 78 [.ref 1] u (fun w => Q (some (.int (nI lo))) w) := fun g => s_fail hU (fun w f t => ⟨rfl, g w f t⟩)
  -- the good case
  by_cases ok : ∃ a', σ = .inr a' ∧ nuK B L lo hi ex a' = true
  · obtain ⟨a', es, ok⟩ := ok
    subst es
    have ea : a' = a := by
      have g := hU.2.2.1
      rw [u3, nI_eq (by omega) (by have := hU.2.1; omega)] at g
      exact g.symm
    subst ea
    have u2 := hU.2.2.2.2.1
    have k := of_decide_eq_true ok
    obtain ⟨k1, k2, k3, k4, k5, k6⟩ := k
    have vb := nuV_b k1 k2 k3
    have n1 : nxM B L lo hi ex (.inr a') = .inr (nxB B L a') := by show (if nuK B L lo hi ex a' = true then _ else _) = _; rw [ok, if_pos rfl]
    have n2 : nvM B L lo hi ex (.inr a') = nuV B L a' := by show (if nuK B L lo hi ex a' = true then _ else _) = _; rw [ok, if_pos rfl]
    rw [n1, n2] at h
    rw [← hte] at k3
    have n3 : ¬ (3 : Int32) < nI (te - a') := by rw [nI_lit, nI_ltI (by omega) (by omega)]; show ¬ 3 < te - a'; omega
    have fin : ∀ i, i = te → zRun (d + 2) false zcX7_number 1 Q 20 [(0, .ref 1), (1, .int (nI lo)), (2, .int (nI hi)), (3, .int a3), (4, .int (nI (te - a'))), (5, .int (nI (nuV B L a'))), (6, .int (nI i))] [] u := by
      intro i hi
      refine t2X7_number_20 (k0 := 1) rfl (br_t (by rw [u4, nI_leI (by omega) (by omega)]; omega) (br_f n3 (br_f (by rw [nI_ltI (by omega) (by omega)]; omega) (br_f (by rw [nI_ltI (by omega) (by omega)]; omega) (br_f (fun z => k6 ((hx _ vb).mp z)) ⟨fun z => absurd u2 z, fun _ => ?_⟩)))))
      refine s_nid hD ha u3 ⟨_, rfl, ?_⟩
      rw [decide_eq_true ⟨k1, k2⟩]
      exact ⟨fun _ => s_nx hU (fun w f t => ⟨rfl, h w f t⟩), fun z => absurd z (by decide)⟩
    have go : ∀ r i, i + r = te → a' ≤ i → zRun (d + 2) false zcX7_number 1 Q 20 [(0, .ref 1), (1, .int (nI lo)), (2, .int (nI hi)), (3, .int a3), (4, .int (nI (te - a'))), (5, .int (nI (vlB B a' (i - a')))), (6, .int (nI i))] [] u := by
      intro r
      induction r with
      | zero =>
        intro i hi ai
        have f := fin i (by omega)
        have e : nuV B L a' = vlB B a' (i - a') := by unfold nuV; rw [← hte, show i = te by omega]
        rw [e] at f
        exact f
      | succ r ih =>
        intro i hi ai
        refine t2X7_number_20 (k0 := 1) rfl (br_f (by rw [u4, nI_leI (by omega) (by omega)]; omega) (br_f n3 ?_))
        refine s_byteAt (k0 := 1) (i := i) (L := L) rfl rfl hL h4 (by omega) ⟨_, rfl, ?_⟩
        obtain ⟨b1, b2⟩ := hB i (by omega)
        have dg := soB_1 (show soB (B i) = 1 by rw [teB_all k1 ai (by omega)]; exact k2)
        have e : nI (vlB B a' (i - a')) * 10 + u (1 + 1) i - 48 = nI (vlB B a' (i + 1 - a')) := by
          rw [b2, nI_lit, nI_lit, nI_mul, nI_add, nI_sub (by show 48 ≤ vlB B a' (i - a') * 10 + B i; omega)]
          have e2 : i + 1 - a' = (i - a') + 1 := by omega
          rw [e2]
          show nI (vlB B a' (i - a') * 10 + B i - 48) = nI (vlB B a' (i - a') * 10 + B (a' + (i - a')) - 48)
          rw [show a' + (i - a') = i by omega]
        rw [e, nI_1 i]
        exact ih (i + 1) (by omega) (by omega)
    have g := go (te - a') a' (by omega) (Nat.le_refl _)
    rw [Nat.sub_self] at g
    exact g
  · have n1 : nxM B L lo hi ex σ = sFl σ := by
      cases σ with
      | inl f => rfl
      | inr a' =>
        show (if nuK B L lo hi ex a' = true then _ else _) = _
        rw [if_neg (fun z => ok ⟨a', rfl, z⟩)]; rfl
    have n2 : nvM B L lo hi ex σ = lo := by
      cases σ with
      | inl f => rfl
      | inr a' =>
        show (if nuK B L lo hi ex a' = true then _ else _) = _
        rw [if_neg (fun z => ok ⟨a', rfl, z⟩)]
    rw [n1, n2] at h
    have hF := bad h
    by_cases n3 : (3 : Int32) < nI (te - a)
    · exact t2X7_number_20 (k0 := 1) rfl ⟨fun _ => br_t n3 ⟨fun _ => hF, fun _ => hF⟩, fun _ => br_t n3 (br_t n3 ⟨fun _ => hF, fun _ => hF⟩)⟩
    · have n3' : te - a ≤ 3 := by
        rw [nI_lit, nI_ltI (by omega) (by omega)] at n3
        exact Nat.le_of_not_lt n3
      have go : ∀ r i (b5 : Int32), i + r = te → a ≤ i → (a < L ∧ soB (B a) = 1 → b5 = nI (vlB B a (i - a))) → zRun (d + 2) false zcX7_number 1 Q 20 [(0, .ref 1), (1, .int (nI lo)), (2, .int (nI hi)), (3, .int a3), (4, .int (nI (te - a))), (5, .int b5), (6, .int (nI i))] [] u := by
        intro r
        induction r with
        | zero =>
          intro i b5 hi ai v5
          refine t2X7_number_20 (k0 := 1) rfl (br_t (by rw [u4, nI_leI (by omega) (by omega)]; omega) (br_f n3 ⟨fun _ => ⟨fun _ => hF, fun _ => hF⟩, fun m1 => ⟨fun _ => ⟨fun _ => hF, fun _ => hF⟩, fun m2 => ⟨fun _ => ⟨fun _ => hF, fun _ => hF⟩, fun m3 => ⟨fun _ => hF, fun al => ?_⟩⟩⟩⟩))
          refine s_nid hD ha u3 ⟨_, rfl, ?_⟩
          by_cases dg : a < L ∧ soB (B a) = 1
          · exfalso
            have v := v5 dg
            have e : vlB B a (i - a) = nuV B L a := by unfold nuV; rw [← hte, show i = te by omega]
            rw [e] at v
            subst v
            have vb := nuV_b dg.1 dg.2 (by rw [← hte]; omega)
            rw [nI_ltI (by omega) (by omega)] at m1 m2
            have m3 : nuV B L a ≠ ex := fun z => m3 ((hx _ vb).mpr z)
            cases σ with
            | inl f => exact absurd (hU.2.2.1.symm.trans al) (nI_nm1 (by have := hU.2.1; omega))
            | inr a' =>
              have ea : a' = a := by
                have g := hU.2.2.1
                rw [u3, nI_eq (by omega) (by have := hU.2.1; omega)] at g
                exact g.symm
              subst ea
              exact ok ⟨a', rfl, decide_eq_true ⟨dg.1, dg.2, by rw [← hte]; omega, by omega, by omega, m3⟩⟩
          · rw [decide_eq_false dg]
            exact ⟨fun z => absurd rfl z, fun _ => hF⟩
        | succ r ih =>
          intro i b5 hi ai v5
          refine t2X7_number_20 (k0 := 1) rfl (br_f (by rw [u4, nI_leI (by omega) (by omega)]; omega) (br_f n3 ?_))
          refine s_byteAt (k0 := 1) (i := i) (L := L) rfl rfl hL h4 (by omega) ⟨_, rfl, ?_⟩
          obtain ⟨b1, b2⟩ := hB i (by omega)
          rw [nI_1 i]
          refine ih (i + 1) _ (by omega) (by omega) (fun dg => ?_)
          have dg2 := soB_1 (show soB (B i) = 1 by rw [teB_all dg.1 ai (by omega)]; exact dg.2)
          rw [v5 dg, b2, nI_lit, nI_lit, nI_mul, nI_add, nI_sub (by show 48 ≤ vlB B a (i - a) * 10 + B i; omega)]
          have e2 : i + 1 - a = (i - a) + 1 := by omega
          rw [e2]
          show nI (vlB B a (i - a) * 10 + B i - 48) = nI (vlB B a (i - a) * 10 + B (a + (i - a)) - 48)
          rw [show a + (i - a) = i by omega]
      exact go (te - a) a 0 (by omega) (Nat.le_refl _) (fun _ => by rw [Nat.sub_self]; rfl)
