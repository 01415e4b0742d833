def zWy (F : Nat → Nat → Nat) (g : Nat → Nat) : Nat → Nat × Nat
  | 0 => (0, 0)
  | k + 1 => (g k, (zWy F g k).2 + F (zWy F g k).1 (g k))
def zWay (F : Nat → Nat → Nat) (g : Nat → Nat) (n : Nat) : Nat := (zWy F g n).2 + F (zWy F g n).1 0
theorem zWy_pos {F : Nat → Nat → Nat} {g : Nat → Nat} (hg : ∀ k, g k < 12) (n : Nat) : (zWy F g n).1 < 12 := by
  cases n with
  | zero => show 0 < 12; omega
  | succ n => exact hg n
theorem zWy_same (F G : Nat → Nat → Nat) (g : Nat → Nat) (n : Nat) : (zWy F g n).1 = (zWy G g n).1 := by cases n <;> rfl
theorem zWy_ub {F : Nat → Nat → Nat} {g : Nat → Nat} {B : Nat} (hF : ∀ a b, F a b ≤ B) : ∀ n, (zWy F g n).2 ≤ B * n
  | 0 => Nat.le_refl _
  | n + 1 => by
    have h1 := zWy_ub (g := g) hF n
    have h2 := hF (zWy F g n).1 (g n)
    show (zWy F g n).2 + F (zWy F g n).1 (g n) ≤ B * (n + 1)
    rw [Nat.mul_succ]; omega
theorem zWy_cong {F : Nat → Nat → Nat} {g g2 : Nat → Nat} : ∀ n, (∀ k, k < n → g k = g2 k) → zWy F g n = zWy F g2 n
  | 0, _ => rfl
  | n + 1, h => by
    show (g n, (zWy F g n).2 + F (zWy F g n).1 (g n)) = (g2 n, (zWy F g2 n).2 + F (zWy F g2 n).1 (g2 n))
    rw [zWy_cong n (fun k hk => h k (by omega)), h n (by omega)]
theorem zWay_ub {F : Nat → Nat → Nat} {g : Nat → Nat} {B n : Nat} (hF : ∀ a b, F a b ≤ B) : zWay F g n ≤ B * n + B := by
  have h1 := zWy_ub (g := g) hF n
  have h2 := hF (zWy F g n).1 0
  unfold zWay; omega
theorem zWy_cmp {F : Nat → Nat → Nat} {g : Nat → Nat} (hF : ∀ a b, a < 12 → b < 12 → F a b = 1000000 ∨ F a b ≤ 99) (hg : ∀ k, g k < 12) : ∀ n, ((zWy (fun a b => min 1000 (F a b)) g n).2 = (zWy F g n).2 ∧ (zWy F g n).2 ≤ 99 * n) ∨ (1000 ≤ (zWy (fun a b => min 1000 (F a b)) g n).2 ∧ 1000000 ≤ (zWy F g n).2)
  | 0 => Or.inl ⟨rfl, Nat.le_refl _⟩
  | n + 1 => by
    have ih := zWy_cmp hF hg n
    have e := zWy_same F (fun a b => min 1000 (F a b)) g n
    have h := hF (zWy F g n).1 (g n) (zWy_pos hg n) (hg n)
    show ((zWy (fun a b => min 1000 (F a b)) g n).2 + min 1000 (F (zWy (fun a b => min 1000 (F a b)) g n).1 (g n)) = (zWy F g n).2 + F (zWy F g n).1 (g n) ∧ (zWy F g n).2 + F (zWy F g n).1 (g n) ≤ 99 * (n + 1)) ∨ (1000 ≤ (zWy (fun a b => min 1000 (F a b)) g n).2 + min 1000 (F (zWy (fun a b => min 1000 (F a b)) g n).1 (g n)) ∧ 1000000 ≤ (zWy F g n).2 + F (zWy F g n).1 (g n))
    rw [← e]
    omega
theorem zWay_cmp {F : Nat → Nat → Nat} {g : Nat → Nat} (hF : ∀ a b, a < 12 → b < 12 → F a b = 1000000 ∨ F a b ≤ 99) (hg : ∀ k, g k < 12) {n : Nat} (h8 : n ≤ 8) : (zWay (fun a b => min 1000 (F a b)) g n = zWay F g n ∧ zWay F g n ≤ 891) ∨ (1000 ≤ zWay (fun a b => min 1000 (F a b)) g n ∧ 1000000 ≤ zWay F g n) := by
  have h1 := zWy_cmp hF hg n
  have e := zWy_same F (fun a b => min 1000 (F a b)) g n
  have h := hF (zWy F g n).1 0 (zWy_pos hg n) (by omega)
  unfold zWay
  dsimp only
  rw [← e]
  omega
def zSw2 (p q i : Nat) : Nat := if i = p then q else if i = q then p else i
theorem s_wayNow {d n : Nat} {F : Nat → Nat → Nat} {g : Nat → Nat} {u : zM} {Q : Option Value → zM → Prop} (hn : u 129 0 = nI n) (h8 : n ≤ 8) (hF : ∀ a b, F a b ≤ 1000000) (hf : ∀ a b, a < 12 → b < 12 → u 134 (12 * a + b) = nI (F a b)) (hg : ∀ k, g k < 12) (hr : ∀ k, k < n → ∃ s, s < 8 ∧ u 129 (155 + k) = nI s ∧ u 129 (163 + 9 * s) = nI (g k))
    (h : Q (some (.int (nI (min 1000000 (zWay F g n))))) u) : zCall (d + 3) false 272 [.ref 128] u Q := by
  refine tX12_wayNow ?_
  refine zFor (σ := Unit) (Pr := fun i _ => zRun (d + 2) false zcX12_wayNow 1 Q 6 [(0, .ref 128), (1, .int (nI (zWy F g i).2)), (2, .int (nI (zWy F g i).1)), (3, .int (nI i))] [] u) (fun _ _ => True) n (fun _ _ => ?_) (fun i _ hi _ ih => ?_) () trivial
  · have hp := zWy_pos (F := F) hg n
    have hb := zWy_ub (g := g) hF n
    have hb2 := hF (zWy F g n).1 0
    have e1 : ((12 * nI (zWy F g n).1) + 0) = nI (12 * (zWy F g n).1 + 0) := by rw [nI_lit, nI_lit, nI_mul, nI_add]
    refine tX12_wayNow_6 ⟨fun _ => ?_, fun c => absurd (by rw [hn]; exact Int32.le_refl _) c⟩
    rw [e1, nI_clamp (by omega), hf _ _ hp (by omega), nI_add]
    refine ⟨vp_in_nI (by omega) (by decide), ?_⟩
    have e2 : (if nI ((zWy F g n).2 + F (zWy F g n).1 0) < 1000000 then nI ((zWy F g n).2 + F (zWy F g n).1 0) else 1000000) = nI (min 1000000 (zWay F g n)) := nI_min (a := 1000000) (b := (zWy F g n).2 + F (zWy F g n).1 0) (by omega) (by omega)
    rw [e2]; exact h
  · obtain ⟨s, hs, r1, r2⟩ := hr i hi
    have hp := zWy_pos (F := F) hg i
    have hgi := hg i
    have e1 : 155 + nI i = nI (155 + i) := by rw [nI_lit, nI_add]
    have e2 : ((163 + (9 * nI s)) + 0) = nI (163 + 9 * s) := by rw [nI_lit, nI_lit, nI_lit, nI_mul, nI_add, nI_add, Nat.add_zero]
    have e3 : ((12 * nI (zWy F g i).1) + nI (g i)) = nI (12 * (zWy F g i).1 + g i) := by rw [nI_lit, nI_mul, nI_add]
    refine tX12_wayNow_6 ⟨fun c => absurd c (by rw [hn, nI_leI (by omega) (by omega)]; omega), fun _ => ?_⟩
    rw [e1, nI_clamp (by omega), r1, e2, nI_clamp (by omega), r2, e3, nI_clamp (by omega), hf _ _ hp (hg i), nI_add, nI_1]
    exact ⟨vp_in_nI (by omega) (by decide), vp_in_nI (by omega) (by decide), vp_in_nI (by omega) (by decide), vp_in_nI (by omega) (by decide), vp_in_nI (by omega) (by decide), ih () trivial⟩
theorem s_wayWith {d n p q : Nat} {a1 a2 : Int32} {G : Nat → Nat → Nat} {g : Nat → Nat} {u : zM} {Q : Option Value → zM → Prop} (e1 : a1 = nI p) (e2 : a2 = nI q) (hp8 : p < 8) (hq8 : q < 8) (hn : u 4 3 = nI n) (h8 : n ≤ 8) (hG : ∀ a b, G a b ≤ 1000) (hf : ∀ a b, a < 12 → b < 12 → u 11 (a * 12 + b) = nI (G a b)) (hg : ∀ k, g k < 12) (hr : ∀ k, k < n → ∃ s, s < 8 ∧ u 6 (zSw2 p q k) = nI s ∧ u 5 s = nI (g k))
    (h : Q (some (.int (nI (zWay G g n)))) u) : zCall (d + 3) false 61 [.ref 3, .int a1, .int a2] u Q := by
  subst e1; subst e2
  refine tX6_wayWith rfl ?_
  refine zFor (σ := Unit) (Pr := fun i _ => zRun (d + 2) false zcX6_wayWith 1 Q 8 [(0, .ref 3), (1, .int (nI p)), (2, .int (nI q)), (3, .int (nI (zWy G g i).1)), (4, .int (nI (zWy G g i).2)), (5, .int (nI i))] [] u) (fun _ _ => True) n (fun _ _ => ?_) (fun i _ hi _ ih => ?_) () trivial
  · have hp := zWy_pos (F := G) hg n
    have e1 : ((nI (zWy G g n).1 * 12) + 0) = nI ((zWy G g n).1 * 12 + 0) := by rw [nI_lit, nI_lit, nI_mul, nI_add]
    refine tX6_wayWith_8 rfl ⟨fun _ => ?_, fun c => absurd (by show u 4 3 ≤ _; rw [hn]; exact Int32.le_refl _) c⟩
    rw [e1, nI_clamp (by omega)]
    refine ⟨vp_in_nI hp (by decide), ?_⟩
    show Q (some (.int (nI (zWy G g n).2 + u 11 ((zWy G g n).1 * 12 + 0)))) u
    rw [hf _ _ hp (by omega), nI_add]
    exact h
  · obtain ⟨s, hs, r1, r2⟩ := hr i hi
    have hp := zWy_pos (F := G) hg i
    have hgi := hg i
    have ex : (((0 : Int32) * 8) + nI s) = nI s := by rw [nI_lit, nI_lit, nI_mul, nI_add, Nat.zero_mul, Nat.zero_add]
    have e3 : ((nI (zWy G g i).1 * 12) + nI (g i)) = nI ((zWy G g i).1 * 12 + g i) := by rw [nI_lit, nI_mul, nI_add]
    have ih := ih () trivial
    have fin : ∀ f : Nat, f < 8 → f = zSw2 p q i → vp_in (nI f) 8 ∧ (vp_in (u 6 ((nI f).toNatClampNeg)) 8 ∧ (vp_in (nI (zWy G g i).1) 12 ∧ vp_in (u 5 ((((0 : Int32) * 8) + (u 6 ((nI f).toNatClampNeg))).toNatClampNeg)) 12 ∧ zRun (d + 2) false zcX6_wayWith 1 Q 8 [(0, .ref 3), (1, .int (nI p)), (2, .int (nI q)), (3, .int (u 5 ((((0 : Int32) * 8) + (u 6 ((nI f).toNatClampNeg))).toNatClampNeg))), (4, .int (nI (zWy G g i).2 + (u 11 (((nI (zWy G g i).1 * 12) + (u 5 ((((0 : Int32) * 8) + (u 6 ((nI f).toNatClampNeg))).toNatClampNeg))).toNatClampNeg)))), (5, .int (nI i + 1))] [] u)) := by
      intro f hf8 e
      rw [nI_clamp (by omega), e, r1, ex, nI_clamp (by omega), r2, e3, nI_clamp (by omega), hf _ _ hp hgi, nI_add, nI_1]
      exact ⟨vp_in_nI (by rw [← e]; exact hf8) (by decide), vp_in_nI hs (by decide), vp_in_nI hp (by decide), vp_in_nI hgi (by decide), ih⟩
    refine tX6_wayWith_8 rfl ⟨fun c => absurd c (by show ¬ u 4 3 ≤ _; rw [hn, nI_leI (by omega) (by omega)]; omega), fun _ => ⟨fun c1 => ⟨fun c2 => ?_, fun c2 => ?_⟩, fun c1 => ?_⟩⟩
    · rw [nI_eq (by omega) (by omega)] at c1 c2
      exact fin i (by omega) (by unfold zSw2; rw [if_neg c1, if_neg c2])
    · rw [nI_eq (by omega) (by omega)] at c1 c2
      exact fin p hp8 (by unfold zSw2; rw [if_neg c1, if_pos c2])
    · rw [nI_eq (by omega) (by omega)] at c1
      exact fin q hq8 (by unfold zSw2; rw [if_pos c1])
