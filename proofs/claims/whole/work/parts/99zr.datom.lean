/-! an ATOM, of the class -/
def ndF (B : Nat → Nat) (L k a : Nat) (e : lpE) : lpR := if isW B L k a = true then .inr (nxB B L a, e) else .inl a
theorem dv_need {B : Nat → Nat} {L k D : Nat} (hk : zStr k) (hD : 3 ≤ D) : dvI D 82 [.ref 1, .ref k] B L (ndF B L k) := by
  obtain ⟨d, rfl⟩ : ∃ d, D = d + 3 := ⟨D - 3, by omega⟩
  intro u0 u r K hF hr hK h
  refine s_needWord hk hr.tk (fun w f t => ⟨rfl, h w (hF.tr f.d) ?_⟩)
  cases r with
  | inl x => exact t
  | inr s =>
    obtain ⟨a, e⟩ := s
    have t : tkS w B L (nxN B L k (.inr a)) := t
    show dvR w B L (ndF B L k a e)
    unfold ndF
    by_cases q : isW B L k a = true
    · rw [if_pos q]
      rw [nxN_t q] at t
      exact ⟨t, hr.2.f f⟩
    · rw [if_neg q]
      have q : isW B L k a = false := by cases z : isW B L k a with
        | false => rfl
        | true => exact absurd z q
      rw [nxN_f q] at t
      exact t
theorem lpK_nd {B : Nat → Nat} {L k : Nat} {r : lpR} {w : zM} (hr : dvR w B L r) (hk : lpK r) : lpK (bdR r (ndF B L k)) := by
  cases r with
  | inl x => exact lpK_il x
  | inr s =>
    obtain ⟨a, e⟩ := s
    have n := nxB_le (B := B) hr.le.1
    have k := hk a e rfl
    show lpK (ndF B L _ a e)
    unfold ndF
    split
    · exact lpK_in _ _ (by omega)
    · exact lpK_il a
theorem lpK_em {B : Nat → Nat} {L N c v : Nat} {t : Bool} {f : Nat → lpE → lpR} {r : lpR} {w : zM} (hf : lpGd B L N t f) (hr : dvR w B L r) (hk : lpK r) (h2 : ∀ a e, r = .inr (a, e) → e.1 + 1 < a) : lpK (bdR (bdR r f) (fun a e => .inr (a, emE e c v))) := by
  intro a2 e2 h
  obtain ⟨a3, e3, h3, h4⟩ := bdR_a h
  obtain ⟨rfl, rfl⟩ := Prod.mk.inj (Sum.inr.inj h4)
  cases r with
  | inl x => cases h3
  | inr s =>
    obtain ⟨a, e⟩ := s
    have g : lpG B L N t a e a3 e3 := hf _ _ _ _ hr.le.1 h3
    have := g.2.2.2.1
    have := h2 a e rfl
    show e3.1 + 1 < a3
    omega
theorem dv_cmp {d L : Nat} {B : Nat → Nat} {r : lpR} {u0 u : zM} {K : zM → Prop} (hF : dvF u0 u) (hr : dvR u B L r) (hK : lpK r) (h : ∀ w, dvF u0 w → dvR w B L (bdR r (lpCmp B L)) → K w) :
    (zCV (d + 5) 92 [.ref 1, .ref 31] u fun w11 => (zCI (d + 5) 79 [.ref 1, .ref 2026] w11 fun x14 w13 => ((x14 = 0 → (zCV (d + 5) 82 [.ref 1, .ref 2027] w13 fun w15 => (zCV (d + 5) 92 [.ref 1, .ref 31] w15 fun w17 => (zCV (d + 5) 30 [.ref 31, .int ((-5))] w17 fun w19 => K w19)))) ∧ (¬ x14 = 0 → (zCV (d + 5) 82 [.ref 1, .ref 2026] w13 fun w21 => (zCV (d + 5) 92 [.ref 1, .ref 31] w21 fun w23 => (zCV (d + 5) 30 [.ref 31, .int ((-4))] w23 fun w25 => K w25))))))) := by
  have sm : ∀ D, 5 ≤ D → dvI D 92 [.ref 1, .ref 31] B L (lpSum B L) := fun D hD => dv_sum hD (lpPart_g B L) (dv_part (by omega))
  have hg := lpSum_g B L
  refine sm (d + 5) (by omega) u0 u r _ hF hr hK (fun w1 f1 r1 => ?_)
  have k1 := lpK_bd hg hr hK
  have e0 : bdR r (lpCmp B L) = bdR (bdR r (lpSum B L)) (fun a2 e2 => if isW B L 2026 a2 = true then bdR (lpSum B L (nxB B L a2) e2) (fun a3 e3 => .inr (a3, emE e3 12 0)) else if isW B L 2027 a2 = true then bdR (lpSum B L (nxB B L a2) e2) (fun a3 e3 => .inr (a3, emE e3 13 0)) else .inl a2) := by
    rw [bdR_bd]; rfl
  rw [e0] at h
  obtain ⟨q, hq⟩ : ∃ q, q = bdR r (lpSum B L) := ⟨_, rfl⟩
  rw [← hq] at r1 k1 h
  refine s_nextIs (d := d + 3) ⟨by decide, by decide⟩ r1.tk ⟨_, rfl, ?_⟩
  -- a sign, the second sum, its code
  have two : ∀ k c (ax : Int32), zStr k → ax = lwD c 0 → (∀ w, dvF u0 w → dvR w B L (bdR (bdR (bdR q (ndF B L k)) (lpSum B L)) (fun a e => .inr (a, emE e c 0))) → K w) → zCV (d + 5) 82 [.ref 1, .ref k] w1 fun w15 => (zCV (d + 5) 92 [.ref 1, .ref 31] w15 fun w17 => (zCV (d + 5) 30 [.ref 31, .int ax] w17 fun w19 => K w19)) := by
    intro k c ax hk ex hh
    refine dv_need hk (by omega) u0 w1 q _ f1 r1 k1 (fun w2 f2 r2 => ?_)
    have k2 := lpK_nd (k := k) r1 k1
    refine sm (d + 5) (by omega) u0 w2 _ _ f2 r2 k2 (fun w3 f3 r3 => ?_)
    exact s_putc r3 (lpK_bd hg r2 k2) ex (fun w4 f4 r4 => ⟨rfl, hh w4 (f3.tr f4) r4⟩)
  cases q with
  | inl x => exact ⟨fun _ => two 2027 13 _ ⟨by decide, by decide⟩ (by decide) h, fun z => absurd rfl z⟩
  | inr s =>
    obtain ⟨a, e⟩ := s
    have h : ∀ w, dvF u0 w → dvR w B L (if isW B L 2026 a = true then bdR (lpSum B L (nxB B L a) e) (fun a3 e3 => .inr (a3, emE e3 12 0)) else if isW B L 2027 a = true then bdR (lpSum B L (nxB B L a) e) (fun a3 e3 => .inr (a3, emE e3 13 0)) else .inl a) → K w := h
    have e2 : sIs B L 2026 (prR (.inr (a, e))) = isW B L 2026 a := rfl
    rw [e2]
    have nd : ∀ k, bdR (.inr (a, e)) (ndF B L k) = if isW B L k a = true then .inr (nxB B L a, e) else .inl a := fun k => rfl
    cases q1 : isW B L 2026 a
    · rw [q1, if_neg (by decide)] at h
      refine ⟨fun _ => two 2027 13 _ ⟨by decide, by decide⟩ (by decide) (fun w g1 g2 => h w g1 ?_), fun z => absurd rfl z⟩
      rw [nd] at g2
      by_cases q2 : isW B L 2027 a = true
      · rw [if_pos q2] at g2 ⊢; exact g2
      · rw [if_neg q2] at g2 ⊢; exact g2
    · rw [q1, if_pos rfl] at h
      refine ⟨fun z => absurd z (by decide), fun _ => two 2026 12 _ ⟨by decide, by decide⟩ (by decide) (fun w g1 g2 => h w g1 ?_)⟩
      rw [nd, if_pos q1] at g2
      exact g2
theorem dv_end {d L : Nat} {B : Nat → Nat} {r : lpR} {u0 u : zM} {K : zM → Prop} (hF : dvF u0 u) (hr : dvR u B L r) (hK : lpK r) (h : ∀ w, dvF u0 w → dvR w B L (bdR r (lpEnd B L)) → K w) :
    (zCI (d + 5) 81 [.ref 1, .ref 2014] u fun x8 w7 => ((x8 = 0 → (zCI (d + 5) 81 [.ref 1, .ref 2025] w7 fun x10 w9 => ((x10 = 0 → (zCV (d + 5) 92 [.ref 1, .ref 31] w9 fun w11 => (zCI (d + 5) 79 [.ref 1, .ref 2026] w11 fun x14 w13 => ((x14 = 0 → (zCV (d + 5) 82 [.ref 1, .ref 2027] w13 fun w15 => (zCV (d + 5) 92 [.ref 1, .ref 31] w15 fun w17 => (zCV (d + 5) 30 [.ref 31, .int ((-5))] w17 fun w19 => K w19)))) ∧ (¬ x14 = 0 → (zCV (d + 5) 82 [.ref 1, .ref 2026] w13 fun w21 => (zCV (d + 5) 92 [.ref 1, .ref 31] w21 fun w23 => (zCV (d + 5) 30 [.ref 31, .int ((-4))] w23 fun w25 => K w25)))))))) ∧ (¬ x10 = 0 → (zCV (d + 5) 30 [.ref 31, .int ((-7))] w9 fun w28 => K w28))))) ∧ (¬ x8 = 0 → (zCV (d + 5) 30 [.ref 31, .int (((-10) : Int32) - 8)] w7 fun w31 => K w31)))) := by
  refine dv_wd (d := d + 2) (c := 8) ⟨by decide, by decide⟩ (by decide) hF hr hK h (fun w hF hr h => ?_)
  refine dv_wd (d := d + 2) (c := 9) ⟨by decide, by decide⟩ (by decide) hF hr hK h (fun w hF hr h => ?_)
  exact dv_cmp hF hr hK h
theorem dv_chain {d L k : Nat} {B : Nat → Nat} {r : lpR} {dp : Int32} {u0 u : zM} {K : zM → Prop} (hF : dvF u0 u) (hr : dvR u B L r) (hK : lpK r)
    (hA : dvI (d + 5) 91 [.ref 1, .ref 31, .int (dp + 1)] B L (lpAt B L k)) (hY : dvI (d + 5) 89 [.ref 1, .ref 31, .int (dp + 1)] B L (lpAny B L k)) (h : ∀ w, dvF u0 w → dvR w B L (bdR r (lpAt B L (k + 1))) → K w) :
    (zCI (d + 5) 81 [.ref 1, .ref 2022] u fun x4 w3 => ((x4 = 0 → (zCI (d + 5) 81 [.ref 1, .ref 2023] w3 fun x6 w5 => ((x6 = 0 → (zCI (d + 5) 81 [.ref 1, .ref 2014] w5 fun x8 w7 => ((x8 = 0 → (zCI (d + 5) 81 [.ref 1, .ref 2025] w7 fun x10 w9 => ((x10 = 0 → (zCV (d + 5) 92 [.ref 1, .ref 31] w9 fun w11 => (zCI (d + 5) 79 [.ref 1, .ref 2026] w11 fun x14 w13 => ((x14 = 0 → (zCV (d + 5) 82 [.ref 1, .ref 2027] w13 fun w15 => (zCV (d + 5) 92 [.ref 1, .ref 31] w15 fun w17 => (zCV (d + 5) 30 [.ref 31, .int ((-5))] w17 fun w19 => K w19)))) ∧ (¬ x14 = 0 → (zCV (d + 5) 82 [.ref 1, .ref 2026] w13 fun w21 => (zCV (d + 5) 92 [.ref 1, .ref 31] w21 fun w23 => (zCV (d + 5) 30 [.ref 31, .int ((-4))] w23 fun w25 => K w25)))))))) ∧ (¬ x10 = 0 → (zCV (d + 5) 30 [.ref 31, .int ((-7))] w9 fun w28 => K w28))))) ∧ (¬ x8 = 0 → (zCV (d + 5) 30 [.ref 31, .int (((-10) : Int32) - 8)] w7 fun w31 => K w31))))) ∧ (¬ x6 = 0 → (zCV (d + 5) 89 [.ref 1, .ref 31, .int (dp + 1)] w5 fun w34 => (zCV (d + 5) 82 [.ref 1, .ref 2024] w34 fun w36 => K w36)))))) ∧ (¬ x4 = 0 → (zCV (d + 5) 91 [.ref 1, .ref 31, .int (dp + 1)] w3 fun w39 => (zCV (d + 5) 30 [.ref 31, .int ((-3))] w39 fun w41 => K w41))))) := by
  refine s_word (d := d + 2) ⟨by decide, by decide⟩ hr.tk (fun w1 f1 t1 => ⟨_, rfl, ?_⟩)
  have F1 := hF.tr f1.d
  cases r with
  | inl x =>
    refine ⟨fun _ => ?_, fun z => absurd rfl z⟩
    refine s_word (d := d + 2) (σ := .inl x) ⟨by decide, by decide⟩ t1 (fun w2 f2 t2 => ⟨_, rfl, fun _ => ?_, fun z => absurd rfl z⟩)
    exact dv_end (r := .inl x) (F1.tr f2.d) t2 (lpK_il x) h
  | inr s =>
    obtain ⟨a, e⟩ := s
    have le := hr.le
    have n1 := nxB_le (B := B) le.1
    have t1 : tkS w1 B L (nxW B L 2022 (.inr a)) := t1
    have e2 : ∀ j, sIs B L j (prR (.inr (a, e))) = isW B L j a := fun _ => rfl
    rw [e2]
    have h : ∀ w, dvF u0 w → dvR w B L (if isW B L 2022 a = true then bdR (lpAt B L k (nxB B L a) e) (fun a2 e2 => .inr (a2, emE e2 14 0)) else if isW B L 2023 a = true then bdR (lpSeq B L (lpSeq B L (lpAt B L k) 2021 15) 2020 16 (nxB B L a) e) (fun a2 e2 => if isW B L 2024 a2 = true then .inr (nxB B L a2, e2) else .inl a2) else lpEnd B L a e) → K w := h
    cases q1 : isW B L 2022 a
    · rw [q1, if_neg (by decide)] at h
      rw [nxW_no (σ := .inr a) q1] at t1
      refine ⟨fun _ => ?_, fun z => absurd rfl z⟩
      refine s_word (d := d + 2) (σ := .inr a) ⟨by decide, by decide⟩ t1 (fun w2 f2 t2 => ⟨_, rfl, ?_⟩)
      have F2 := F1.tr f2.d
      have e3 : sIs B L 2023 (.inr a) = isW B L 2023 a := rfl
      rw [e3]
      cases q2 : isW B L 2023 a
      · rw [q2, if_neg (by decide)] at h
        rw [nxW_no (σ := .inr a) q2] at t2
        refine ⟨fun _ => ?_, fun z => absurd rfl z⟩
        exact dv_end (r := .inr (a, e)) F2 ⟨t2, hr.2.f (f1.tr f2)⟩ hK h
      · rw [q2, if_pos rfl] at h
        rw [nxW_t q2] at t2
        refine ⟨fun z => absurd z (by decide), fun _ => ?_⟩
        have hr2 : dvR w2 B L (.inr (nxB B L a, e)) := ⟨t2, hr.2.f (f1.tr f2)⟩
        have hk2 : lpK (.inr (nxB B L a, e)) := lpK_in _ _ (by have := hK a e rfl; omega)
        refine hY u0 w2 _ _ F2 hr2 hk2 (fun w3 f3 r3 => ?_)
        exact dv_need ⟨by decide, by decide⟩ (by omega) u0 w3 _ _ f3 r3 (lpK_bd (lpAny_g B L k) hr2 hk2) (fun w4 f4 r4 => h w4 f4 r4)
    · rw [q1, if_pos rfl] at h
      rw [nxW_t q1] at t1
      refine ⟨fun z => absurd z (by decide), fun _ => ?_⟩
      have hr2 : dvR w1 B L (.inr (nxB B L a, e)) := ⟨t1, hr.2.f f1⟩
      have hk2 : lpK (.inr (nxB B L a, e)) := lpK_in _ _ (by have := hK a e rfl; omega)
      refine hA u0 w1 _ _ F1 hr2 hk2 (fun w3 f3 r3 => ?_)
      exact s_putc (c := 14) (v := 0) r3 (lpK_bd (lpAt_g B L k) hr2 hk2) (by decide) (fun w4 f4 r4 => ⟨rfl, h w4 (f3.tr f4) r4⟩)
theorem dv_chain0 {d L : Nat} {B : Nat → Nat} {r : lpR} {dp : Int32} {u0 u : zM} {K : zM → Prop} (hF : dvF u0 u) (hr : dvR u B L r) (hK : lpK r) (hn : ∀ a e, r = .inr (a, e) → isW B L 2022 a = false ∧ isW B L 2023 a = false) (h : ∀ w, dvF u0 w → dvR w B L (bdR r (lpEnd B L)) → K w) :
    (zCI (d + 5) 81 [.ref 1, .ref 2022] u fun x4 w3 => ((x4 = 0 → (zCI (d + 5) 81 [.ref 1, .ref 2023] w3 fun x6 w5 => ((x6 = 0 → (zCI (d + 5) 81 [.ref 1, .ref 2014] w5 fun x8 w7 => ((x8 = 0 → (zCI (d + 5) 81 [.ref 1, .ref 2025] w7 fun x10 w9 => ((x10 = 0 → (zCV (d + 5) 92 [.ref 1, .ref 31] w9 fun w11 => (zCI (d + 5) 79 [.ref 1, .ref 2026] w11 fun x14 w13 => ((x14 = 0 → (zCV (d + 5) 82 [.ref 1, .ref 2027] w13 fun w15 => (zCV (d + 5) 92 [.ref 1, .ref 31] w15 fun w17 => (zCV (d + 5) 30 [.ref 31, .int ((-5))] w17 fun w19 => K w19)))) ∧ (¬ x14 = 0 → (zCV (d + 5) 82 [.ref 1, .ref 2026] w13 fun w21 => (zCV (d + 5) 92 [.ref 1, .ref 31] w21 fun w23 => (zCV (d + 5) 30 [.ref 31, .int ((-4))] w23 fun w25 => K w25)))))))) ∧ (¬ x10 = 0 → (zCV (d + 5) 30 [.ref 31, .int ((-7))] w9 fun w28 => K w28))))) ∧ (¬ x8 = 0 → (zCV (d + 5) 30 [.ref 31, .int (((-10) : Int32) - 8)] w7 fun w31 => K w31))))) ∧ (¬ x6 = 0 → (zCV (d + 5) 89 [.ref 1, .ref 31, .int (dp + 1)] w5 fun w34 => (zCV (d + 5) 82 [.ref 1, .ref 2024] w34 fun w36 => K w36)))))) ∧ (¬ x4 = 0 → (zCV (d + 5) 91 [.ref 1, .ref 31, .int (dp + 1)] w3 fun w39 => (zCV (d + 5) 30 [.ref 31, .int ((-3))] w39 fun w41 => K w41))))) := by
  refine s_word (d := d + 2) ⟨by decide, by decide⟩ hr.tk (fun w1 f1 t1 => ⟨_, rfl, ?_⟩)
  have F1 := hF.tr f1.d
  have n1 : sIs B L 2022 (prR r) = false := by
    cases r with
    | inl x => rfl
    | inr s => exact (hn s.1 s.2 rfl).1
  have n2 : sIs B L 2023 (prR r) = false := by
    cases r with
    | inl x => rfl
    | inr s => exact (hn s.1 s.2 rfl).2
  have up : ∀ w, tkF u w → tkS w B L (prR r) → dvR w B L r := fun w f t => by
    cases r with
    | inl x => exact t
    | inr s => exact ⟨t, hr.2.f f⟩
  rw [nxW_no n1] at t1
  rw [n1]
  refine ⟨fun _ => ?_, fun z => absurd rfl z⟩
  refine s_word (d := d + 2) ⟨by decide, by decide⟩ t1 (fun w2 f2 t2 => ⟨_, rfl, ?_⟩)
  rw [nxW_no n2] at t2
  rw [n2]
  refine ⟨fun _ => ?_, fun z => absurd rfl z⟩
  exact dv_end (F1.tr f2.d) (up w2 (f1.tr f2) t2) hK h
/-- an ATOM k levels above the deepest -/
theorem dv_atom {B : Nat → Nat} {L : Nat} : ∀ k, k ≤ 6 → ∀ D, 6 + 3 * k ≤ D → dvI D 91 [.ref 1, .ref 31, .int (nI (6 - k))] B L (lpAt B L k)
  | 0, _, D, hD => by
    obtain ⟨d, rfl⟩ : ∃ d, D = d + 6 := ⟨D - 6, by omega⟩
    intro u0 u r K hF hr hK h
    refine t2X8_readAtom (k0 := 1) (k1 := 31) rfl rfl ?_
    have fl : (∀ w, dvF u0 w → dvR w B L (bdR r (fun a _ => .inl a)) → K w) → zCV (d + 5) 78 [.ref 1] u fun w => (none : Option Value) = none ∧ K w := fun h => dv_fail (d := d + 4) hF hr (fun w x y => ⟨rfl, h w x y⟩)
    have n6 : ¬ nI (6 - 0) < (6 : Int32) := by decide
    refine s_nextIs (d := d + 3) ⟨by decide, by decide⟩ hr.tk ⟨_, rfl, ?_⟩
    cases r with
    | inl x =>
      refine ⟨fun z => absurd rfl z, fun _ => ?_⟩
      refine s_nextIs (d := d + 3) (σ := .inl x) ⟨by decide, by decide⟩ hr ⟨_, rfl, fun _ => ?_, fun z => absurd rfl z⟩
      exact dv_chain0 (r := .inl x) hF hr hK (fun a e q => by cases q) (fun w a b => ⟨rfl, h w a b⟩)
    | inr s =>
      obtain ⟨a, e⟩ := s
      have h : ∀ w, dvF u0 w → dvR w B L (if isW B L 2022 a = true then .inl a else if isW B L 2023 a = true then .inl a else lpEnd B L a e) → K w := h
      have e2 : ∀ j, sIs B L j (prR (.inr (a, e))) = isW B L j a := fun _ => rfl
      rw [e2]
      cases q1 : isW B L 2022 a
      · rw [q1, if_neg (by decide)] at h
        refine ⟨fun z => absurd rfl z, fun _ => ?_⟩
        refine s_nextIs (d := d + 3) ⟨by decide, by decide⟩ hr.tk ⟨_, rfl, ?_⟩
        rw [e2]
        cases q2 : isW B L 2023 a
        · rw [q2, if_neg (by decide)] at h
          refine ⟨fun _ => ?_, fun z => absurd rfl z⟩
          exact dv_chain0 (r := .inr (a, e)) hF hr hK (fun a2 e2 q => by obtain ⟨rfl, rfl⟩ := Prod.mk.inj (Sum.inr.inj q); exact ⟨q1, q2⟩) (fun w a b => ⟨rfl, h w a b⟩)
        · rw [q2, if_pos rfl] at h
          exact ⟨fun z => absurd z (by decide), fun _ => ⟨fun z => absurd z n6, fun _ => fl h⟩⟩
      · rw [q1, if_pos rfl] at h
        exact ⟨fun _ => ⟨fun z => absurd z n6, fun _ => fl h⟩, fun z => absurd z (by decide)⟩
  | k + 1, hk, D, hD => by
    obtain ⟨d, rfl⟩ : ∃ d, D = d + 6 := ⟨D - 6, by omega⟩
    intro u0 u r K hF hr hK h
    have ed : nI (6 - (k + 1)) + 1 = nI (6 - k) := by rw [nI_1]; congr 1; omega
    have ihA : ∀ D, 6 + 3 * k ≤ D → dvI D 91 [.ref 1, .ref 31, .int (nI (6 - (k + 1)) + 1)] B L (lpAt B L k) := fun D hD => by rw [ed]; exact dv_atom k (by omega) D hD
    have ihL : ∀ D, 7 + 3 * k ≤ D → dvI D 90 [.ref 1, .ref 31, .int (nI (6 - (k + 1)) + 1)] B L (lpAll B L k) := fun D hD => dv_all (by omega) (lpAt_g B L k) (ihA (D - 1) (by omega))
    have ihY : dvI (d + 5) 89 [.ref 1, .ref 31, .int (nI (6 - (k + 1)) + 1)] B L (lpAny B L k) := dv_any (by omega) (lpAll_g B L k) (ihL (d + 5 - 1) (by omega))
    have lt : nI (6 - (k + 1)) < (6 : Int32) := by rw [nI_lit, nI_ltI (by omega) (by omega)]; show 6 - (k + 1) < 6; omega
    have ch := fun u hF hr => dv_chain (d := d) (u0 := u0) (u := u) (r := r) (K := fun w => (none : Option Value) = none ∧ K w) hF hr hK (ihA (d + 5) (by omega)) ihY (fun w a b => ⟨rfl, h w a b⟩)
    refine t2X8_readAtom (k0 := 1) (k1 := 31) rfl rfl ?_
    refine s_nextIs (d := d + 3) ⟨by decide, by decide⟩ hr.tk ⟨_, rfl, ?_⟩
    refine ⟨fun _ => ⟨fun _ => ch u hF hr, fun z => absurd lt z⟩, fun _ => ?_⟩
    refine s_nextIs (d := d + 3) ⟨by decide, by decide⟩ hr.tk ⟨_, rfl, ?_⟩
    exact ⟨fun _ => ch u hF hr, fun _ => ⟨fun _ => ch u hF hr, fun z => absurd lt z⟩⟩
theorem dv_any6 {B : Nat → Nat} {L D : Nat} (hD : 26 ≤ D) : dvI D 89 [.ref 1, .ref 31, .int 0] B L (lpAny B L 6) :=
  dv_any (dp := nI (6 - 6)) (by omega) (lpAll_g B L 6) (dv_all (by omega) (lpAt_g B L 6) (dv_atom 6 (by decide) (D - 1 - 1) (by omega)))
