def zClo (C : Bool → Nat → List Value → zM → (Option Value → zM → Prop) → Prop) (cd : zCd) (rb : Nat) (τ : Bool) (Q : Option Value → zM → Prop) (P : Nat → zLs → List Value → zM → Prop) : Prop :=
  (∀ pc ls st u, zStep C cd rb τ P Q pc ls st u → P pc ls st u) ∧ (∀ pc ls ls0 st u, (∀ q ∈ ls0, q ∈ ls) → P pc ls0 st u → P pc ls st u)
def zCall : Nat → Bool → Nat → List Value → zM → (Option Value → zM → Prop) → Prop
  | 0, _, _, _, _, _ => False
  | d + 1, τ, y, as, u, Q => (as.all fun v => v.category == 1) = true ∧ as.length ≤ zMx y ∧ ∀ P : Nat → zLs → List Value → zM → Prop, zClo (zCall d) (zCode y) (zRb y) τ Q P → P 0 (lv_args 0 as) [] u
theorem zArgs_map (ad : Nat → Nat) : ∀ (i : Nat) (as : List Value), lv_args i (as.map (zCv ad)) = zCl ad (lv_args i as)
  | _, [] => rfl
  | i, v :: t => by
    show (i, zCv ad v) :: lv_args (if (zCv ad v).category = 2 then i + 2 else i + 1) (t.map (zCv ad)) = (i, zCv ad v) :: zCl ad (lv_args (if v.category = 2 then i + 2 else i + 1) t)
    rw [zCv_cat, zArgs_map ad _ t]
theorem zSl_len : ∀ (as : List Value), (as.all fun v => v.category == 1) = true → (lg_sl as).length = as.length
  | [], _ => rfl
  | v :: t, h => by
    simp only [List.all_cons, Bool.and_eq_true, beq_iff_eq] at h
    have ih := zSl_len t h.2
    have h1 := h.1
    rw [show lg_sl (v :: t) = [Slot.val v] ++ lg_sl t from by simp [lg_sl, h1]]
    simp [ih]
theorem zCat_map (ad : Nat → Nat) (as : List Value) (h : (as.all fun v => v.category == 1) = true) : ((as.map (zCv ad)).all fun v => v.category == 1) = true := by
  simp only [List.all_map]
  rw [← h]
  congr 1
  funext v
  simp [Function.comp, zCv_cat]
theorem zkOf {y : Nat} (hy : y < 363) {pc : Nat} {x : zIn} (h : zLk (zCode y) pc = some x) : decode (zBy y) pc = .ok (x.1, x.2.1) ∧ zOkI (zOo y) (zMx y) x = true := by
  have h1 := List.all_eq_true.mp (zkAll _ (zMt_in hy)) _ (zLk_mem h)
  simp only [Bool.and_eq_true, decide_eq_true_eq] at h1
  exact h1
