/-- the CART on its way: corner, power, bottles given, STEPS come to, STEPS given to, left and rest of each -/
abbrev zR := Nat × Nat × Nat × Int32 × Int32 × (Nat → Int32) × (Nat → Int32)
def zR.c (r : zR) : Nat := r.1
def zR.p (r : zR) : Nat := r.2.1
def zR.t (r : zR) : Nat := r.2.2.1
def zR.came (r : zR) : Int32 := r.2.2.2.1
def zR.gave (r : zR) : Int32 := r.2.2.2.2.1
def zR.lf (r : zR) : Nat → Int32 := r.2.2.2.2.2.1
def zR.rs (r : zR) : Nat → Int32 := r.2.2.2.2.2.2
def zBit (s : Nat) : Int32 := (1 : Int32) <<< (nI s &&& 31)
def zNo (W : Nat → Int32) (s : Nat) : Bool := decide (W (163 + 9 * s + 7) = W 3 - W 3 / 7 * 7)
def zBt (K t : Nat) (b : Bool) : Nat := min (K - t) (if b then 2 else 1)
def zGoTo (F : Nat → Nat → Nat) (K : Nat) (cn : Nat → Nat) (no : Nat → Bool) (r : zR) (s : Nat) : zR :=
  if F r.c (cn s) + F (cn s) 0 ≤ r.p then (cn s, r.p - F r.c (cn s), r.t + zBt K r.t (no s), r.came ||| zBit s, r.gave ||| (if 0 < zBt K r.t (no s) then zBit s else 0), upd r.lf s (nI (zBt K r.t (no s))), upd r.rs s (nI (r.p - F r.c (cn s)))) else r
def zRide (F : Nat → Nat → Nat) (K : Nat) (cn : Nat → Nat) (no : Nat → Bool) (st : Nat → Nat) (p0 : Nat) : Nat → zR
  | 0 => (0, p0, 0, 0, 0, fun _ => 0, fun _ => 0)
  | i + 1 => zGoTo F K cn no (zRide F K cn no st p0 i) (st i)
theorem zGoTo_ok {F : Nat → Nat → Nat} {K p0 : Nat} {cn : Nat → Nat} {no : Nat → Bool} {r : zR} {s : Nat} (hc : ∀ s, cn s < 12) (h : r.c < 12 ∧ r.p ≤ p0 ∧ r.t ≤ K) : (zGoTo F K cn no r s).c < 12 ∧ (zGoTo F K cn no r s).p ≤ p0 ∧ (zGoTo F K cn no r s).t ≤ K := by
  unfold zGoTo
  split
  · refine ⟨hc s, ?_, ?_⟩
    · show r.p - F r.c (cn s) ≤ p0; omega
    · show r.t + zBt K r.t (no s) ≤ K
      unfold zBt; omega
  · exact h
theorem zRide_ok {F : Nat → Nat → Nat} {K p0 : Nat} {cn : Nat → Nat} {no : Nat → Bool} {st : Nat → Nat} (hc : ∀ s, cn s < 12) : ∀ i, (zRide F K cn no st p0 i).c < 12 ∧ (zRide F K cn no st p0 i).p ≤ p0 ∧ (zRide F K cn no st p0 i).t ≤ K
  | 0 => ⟨by show 0 < 12; omega, Nat.le_refl _, Nat.zero_le _⟩
  | i + 1 => zGoTo_ok hc (zRide_ok hc i)
theorem zGoTo_min {F : Nat → Nat → Nat} {K : Nat} {cn : Nat → Nat} {no : Nat → Bool} {r : zR} {s : Nat} (h99 : ∀ a b, a < 12 → b < 12 → F a b = 1000000 ∨ F a b ≤ 99) (hc : ∀ s, cn s < 12) (h1 : r.c < 12) (h2 : r.p ≤ 200) : zGoTo (fun a b => min 1000 (F a b)) K cn no r s = zGoTo F K cn no r s := by
  have a1 := h99 r.c (cn s) h1 (hc s)
  have a2 := h99 (cn s) 0 (hc s) (by decide)
  unfold zGoTo
  by_cases q : F r.c (cn s) + F (cn s) 0 ≤ r.p
  · have e : min 1000 (F r.c (cn s)) = F r.c (cn s) := Nat.min_eq_right (by omega)
    rw [if_pos q]
    simp only [e]
    rw [if_pos (by omega)]
  · rw [if_neg q, if_neg (by show ¬ min 1000 (F r.c (cn s)) + min 1000 (F (cn s) 0) ≤ r.p; omega)]
theorem zRide_min {F : Nat → Nat → Nat} {K p0 : Nat} {cn : Nat → Nat} {no : Nat → Bool} {st : Nat → Nat} (h99 : ∀ a b, a < 12 → b < 12 → F a b = 1000000 ∨ F a b ≤ 99) (hc : ∀ s, cn s < 12) (h2 : p0 ≤ 200) : ∀ i, zRide (fun a b => min 1000 (F a b)) K cn no st p0 i = zRide F K cn no st p0 i
  | 0 => rfl
  | i + 1 => by
    have ok := zRide_ok (F := F) (K := K) (p0 := p0) (no := no) (st := st) hc i
    unfold zRide
    rw [zRide_min h99 hc h2 i, zGoTo_min h99 hc ok.1 (by omega)]
/-- the reference's numbers tell of a ride -/
def zRM (u : zM) (K : Nat) (r : zR) : Prop := u 128 19 = nI r.c ∧ u 128 20 = nI r.p ∧ u 128 21 = nI (K - r.t) ∧ u 128 22 = r.came ∧ u 128 23 = r.gave
theorem zBt_if {K t : Nat} {b : Bool} (hK : K ≤ 99) (m : Nat) (hm : m = if b then 2 else 1) : (if (nI m : Int32) < nI (K - t) then nI m else nI (K - t)) = nI (zBt K t b) := by
  have hm2 : m ≤ 2 := by rw [hm]; split <;> omega
  unfold zBt
  rw [← hm]
  by_cases q : m < K - t
  · rw [if_pos ((nI_ltI (by omega) (by omega)).mpr q), Nat.min_eq_right (by omega)]
  · rw [if_neg (fun z => q ((nI_ltI (by omega) (by omega)).mp z)), Nat.min_eq_left (by omega)]
