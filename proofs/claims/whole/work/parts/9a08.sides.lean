/-! what a call gives has its method's shape; the two sides' addresses give one world -/
theorem zStep_sh {C : Bool → Nat → List Value → zM → (Option Value → zM → Prop) → Prop} {cd : zCd} {rb : Nat} {P : Nat → zLs → List Value → zM → Prop} {Q : Option Value → zM → Prop} {pc : Nat} {ls : zLs} {st : List Value} {u : zM} (h : zStep C cd rb false P Q pc ls st u) : zStep C cd rb false P (fun v w => Q v w ∧ (v = none ↔ rb = 0)) pc ls st u := by
  unfold zStep at h ⊢
  cases hq : zLk cd pc with
  | none => rw [hq] at h; exact False.elim h
  | some x =>
    rw [hq] at h
    obtain ⟨i, n, a, b, k, v⟩ := x
    dsimp only at h ⊢
    cases i
    all_goals try dsimp only at h ⊢
    case ireturn =>
      obtain ⟨x, r, rfl, h1, h2, h3⟩ := zI1_e h
      refine ⟨h1, h2, ?_⟩
      split at h3
      · show _ ∧ _
        refine And.intro h3 (Iff.intro (fun q => ?_) (fun q => ?_)) <;> cases q
      · refine And.intro h3.1 (And.intro h3.2 (Iff.intro (fun q => ?_) (fun q => ?_))) <;> cases q
      · exact h3.elim
    case return_ =>
      obtain ⟨h1, h2, h3, h4⟩ := h
      exact ⟨h1, h2, h3, h4, ⟨fun _ => h3, fun _ => rfl⟩⟩
    case new idx => exact absurd h.1 (by decide)
    case invokevirtual idx =>
      split at h
      · exact h
      · exact h
      · refine zPop_m (fun as st1 g => zR1_m (fun x r g => ⟨g.1, g.2.1, g.2.2.imp id fun q => absurd q.1 (by decide)⟩) g) b st [] h
    case invokestatic idx =>
      rcases k with _ | _ | _ | k
      · exact zPop_m (fun as r g => ⟨g.1, g.2.imp id fun q => absurd q.1 (by decide)⟩) b st [] h
      · exact h
      · exact h
      · rcases k with _ | _ | _ | k <;> exact h
    all_goals exact h
theorem zCall_sh : ∀ {d y : Nat} {as : List Value} {u : zM} {Q : Option Value → zM → Prop}, zCall d false y as u Q → zCall d false y as u fun v w => Q v w ∧ (v = none ↔ zRb y = 0)
  | 0, _, _, _, _, h => h.elim
  | _ + 1, _, _, _, _, ⟨h1, h2, h3⟩ => ⟨h1, h2, fun P hP => h3 P ⟨fun pc ls st u hs => hP.1 _ _ _ _ (zStep_sh hs), hP.2⟩⟩
/-- the same world with the other side's texts -/
def yEd (E : zE) : zE := (E.1, E.2.1, (fun k => if k < 2000 then E.2.2.1 k else E.2.2.1 (k + 8000)), E.2.2.2)
theorem yEd_ad {E : zE} {k : Nat} (h : k < 2000) : zAd (yEd E) k = zAd E k := if_pos h
theorem yFl (E : zE) (r : Nat → Int32) (k : Nat) : ∀ (l : List (Option Nat)) (j : Nat), (l.all fun o => decide (k + o.getD 0 < 2000)) = true → zFl (zAd (yEd E)) r k j l = zFl (zAd E) r k j l
  | [], _, _ => rfl
  | none :: t, j, h => by
    simp only [List.all_cons, Bool.and_eq_true] at h
    show Value.int (r j) :: zFl (zAd (yEd E)) r k (j + 1) t = _ :: _
    rw [yFl E r k t (j + 1) h.2]
  | some o :: t, j, h => by
    simp only [List.all_cons, Bool.and_eq_true, decide_eq_true_eq, Option.getD_some] at h
    show Value.ref (zAd (yEd E) (k + o)) :: zFl (zAd (yEd E)) r k (j + 1) t = Value.ref (zAd E (k + o)) :: zFl (zAd E) r k (j + 1) t
    rw [yFl E r k t (j + 1) h.2, yEd_ad h.1]
theorem ySh_ok : ((List.range 143).all fun k => match zShapes[k]? with
    | some (.inl ci) => (zFk ci).all fun o => decide (k + o.getD 0 < 2000)
    | some (.inr (t, n)) => decide (t < 3) || decide (n ≤ 12)
    | none => true) = true := by decide +kernel
theorem yArr {cI : ClassId} {n : Nat} {f g : Nat → Value} (h : ∀ j, j < n → f j = g j) : arrV cI n f = arrV cI n g := by
  have e : (fun j : Fin n => f j.val) = fun j => g j.val := funext fun j => h _ j.isLt
  unfold arrV
  rw [e]
theorem yAt_side (E : zE) {D : va_G} {cl : List vw_C} {H : Heap} (r : Nat → Int32) {k : Nat} (hk : k < 143) : va_at D cl (zAd (yEd E) k, zCont (yEd E) r k) H ↔ va_at D cl (zAd E k, zCont E r k) H := by
  have h0 := List.all_eq_true.mp ySh_ok k (List.mem_range.mpr hk)
  rw [yEd_ad (by omega)]
  cases hs : zShapes[k]? with
  | none => simp only [zCont, hs]
  | some x =>
    rw [hs] at h0
    cases x with
    | inl ci =>
      have e : zCont (yEd E) r k = zCont E r k := by
        rw [zCont_o hs, zCont_o hs, yFl E r k _ 0 h0]
      rw [e]
    | inr q =>
      obtain ⟨t, n⟩ := q
      rcases t with _ | _ | _ | t
      · rw [zCont_0 hs, zCont_0 hs]; rfl
      · rw [zCont_1 hs, zCont_1 hs]; rfl
      · rw [zCont_2 hs, zCont_2 hs]; rfl
      · have hn : n ≤ 12 := by
          have : (decide (t + 1 + 1 + 1 < 3) || decide (n ≤ 12)) = true := h0
          simp only [Bool.or_eq_true, decide_eq_true_eq] at this
          omega
        have e1 : zCont (yEd E) r k = .inl (E.2.1 3, (n, .inr (.inr (.inr (.inr (fun i => some (zAd (yEd E) (k + 1 + 5 * i)))))))) := by simp only [zCont, hs]; rfl
        have e2 : zCont E r k = .inl (E.2.1 3, (n, .inr (.inr (.inr (.inr (fun i => some (zAd E (k + 1 + 5 * i)))))))) := by simp only [zCont, hs]
        rw [e1, e2]
        have e3 : vp_cell (E.2.1 3) (n, .inr (.inr (.inr (.inr (fun i => some (zAd (yEd E) (k + 1 + 5 * i))))))) = vp_cell (E.2.1 3) (n, .inr (.inr (.inr (.inr (fun i => some (zAd E (k + 1 + 5 * i))))))) := by
          rw [vp_cell_q, vp_cell_q]
          refine yArr (fun j hj => ?_)
          show va_rf (some (zAd (yEd E) (k + 1 + 5 * j))) = va_rf (some (zAd E (k + 1 + 5 * j)))
          rw [yEd_ad (by omega)]
        show (H[zAd E k]? = some (vp_cell _ _)) ↔ (H[zAd E k]? = some (vp_cell _ _))
        rw [e3]
theorem yWs_some {n : Nat} {E : zE} {u : zM} {k : Nat} {q : Nat × va_E} (h : (yWs n E u)[k]? = some q) : k < n ∧ q = (zAd E k, zCont E (u k) k) := by
  have h1 : k < n := by
    have := (List.getElem?_eq_some_iff.mp h).1
    simpa [yWs] using this
  exact ⟨h1, (Option.some.inj ((yWs_at E u h1).symm.trans h)).symm⟩
theorem yH_side {n : Nat} (hn : n ≤ 143) {E : zE} {u : zM} {H : Heap} : yH n (yEd E) u H ↔ yH n E u H := by
  constructor
  · rintro ⟨h1, ⟨h2, h3⟩, h4⟩
    refine ⟨fun k q hq => ?_, ⟨fun i j p q hp hq e => ?_, fun k q hq => ?_⟩, h4⟩
    · obtain ⟨hk, rfl⟩ := yWs_some hq
      exact (yAt_side E (u k) (by omega)).mp (h1 k _ (yWs_at (yEd E) u hk))
    · obtain ⟨hi, rfl⟩ := yWs_some hp
      obtain ⟨hj, rfl⟩ := yWs_some hq
      exact h2 i j _ _ (yWs_at (yEd E) u hi) (yWs_at (yEd E) u hj) (by show zAd (yEd E) i = zAd (yEd E) j; rw [yEd_ad (by omega), yEd_ad (by omega)]; exact e)
    · obtain ⟨hk, rfl⟩ := yWs_some hq
      have := h3 k _ (yWs_at (yEd E) u hk)
      show zA E (zAd E k)
      rw [← yEd_ad (E := E) (k := k) (by omega)]
      exact this
  · rintro ⟨h1, ⟨h2, h3⟩, h4⟩
    refine ⟨fun k q hq => ?_, ⟨fun i j p q hp hq e => ?_, fun k q hq => ?_⟩, h4⟩
    · obtain ⟨hk, rfl⟩ := yWs_some hq
      exact (yAt_side E (u k) (by omega)).mpr (h1 k _ (yWs_at E u hk))
    · obtain ⟨hi, rfl⟩ := yWs_some hp
      obtain ⟨hj, rfl⟩ := yWs_some hq
      refine h2 i j _ _ (yWs_at E u hi) (yWs_at E u hj) ?_
      have e2 : zAd (yEd E) i = zAd (yEd E) j := e
      rw [yEd_ad (by omega), yEd_ad (by omega)] at e2
      exact e2
    · obtain ⟨hk, rfl⟩ := yWs_some hq
      show zA E (zAd (yEd E) k)
      rw [yEd_ad (by omega)]
      exact h3 k _ (yWs_at E u hk)
