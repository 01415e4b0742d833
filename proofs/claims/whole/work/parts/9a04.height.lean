theorem yLe_u {D : Nat → Option Nat} {pc t up down L L2 : Nat} (h : yLe D pc t up down = true) (hl : ∀ n, D pc = some n → L ≤ n) (he : L2 + down ≤ L + up) : ∀ m, D t = some m → L2 ≤ m := by
  intro m hm
  unfold yLe at h
  rw [hm] at h
  cases hd : D pc with
  | none => rw [hd] at h; cases h
  | some n =>
    rw [hd] at h
    have h1 : n + up ≤ m + down := of_decide_eq_true h
    have h2 := hl n hd
    omega
theorem zPop_ml {k k2 : List Value → List Value → Prop} : ∀ (n : Nat) (st acc : List Value), (∀ as r, st.length = n + r.length → k as r → k2 as r) → zPop n st acc k → zPop n st acc k2
  | 0, st, acc, hk, h => hk _ _ (by omega) h
  | n + 1, [], acc, _, h => h.elim
  | n + 1, v :: st, acc, hk, h => zPop_ml n st (v :: acc) (fun as r e g => hk as r (by simp only [List.length_cons]; omega) g) h
theorem zJ_ml {pc : Nat} {o : Int} {k k2 : Nat → Prop} (hk : ∀ t, ((pc : Int) + o).toNat = t → k t → k2 t) (h : zJ pc o k) : zJ pc o k2 := by
  unfold zJ at *
  split
  · rename_i t e
    rw [e] at h
    exact hk t (by rw [e]; rfl) h
  · rename_i t e
    rw [e] at h
    exact h
theorem zSw_ml {pc : Nat} {x : Int32} {k k2 : Nat → Prop} : ∀ (l : List Int) (i : Int), (∀ o ∈ l, ∀ t, ((pc : Int) + o).toNat = t → k t → k2 t) → zSw pc x k l i → zSw pc x k2 l i
  | [], _, _, h => h
  | o :: t, i, hk, h => ⟨fun e => zJ_ml (hk o List.mem_cons_self) (h.1 e), zSw_ml t (i + 1) (fun o2 h2 => hk o2 (List.mem_cons_of_mem _ h2)) h.2⟩
theorem yCf {D : Nat → Option Nat} {pc b L : Nat} {P : Nat → zLs → List Value → zM → Prop} {ls : zLs} {r : List Value} (h : yLe D pc (pc + 3) 1 b = true) (hl : ∀ n, D pc = some n → L ≤ n) (he : r.length + b ≤ L) : (fun (w : Option Value) (u : zM) => (∀ n, D (pc + 3) = some n → (w.toList ++ r).length ≤ n) → P (pc + 3) ls (w.toList ++ r) u) = fun w u => P (pc + 3) ls (w.toList ++ r) u := by
  funext w u
  refine propext ⟨fun g => g (yLe_u h hl ?_), fun g _ => g⟩
  cases w <;> simp only [Option.toList, List.nil_append, List.cons_append, List.length_cons] <;> omega
set_option maxHeartbeats 4000000 in
/-- a step, with the stack's height watched -/
theorem yTr {C : Bool → Nat → List Value → zM → (Option Value → zM → Prop) → Prop} {cd : zCd} {rb : Nat} {τ : Bool} {P : Nat → zLs → List Value → zM → Prop} {Q : Option Value → zM → Prop} {D : Nat → Option Nat} {pc : Nat} {ls : zLs} {st : List Value} {u : zM} (hck : ∀ x, zLk cd pc = some x → yDk D pc x = true) (hl : ∀ n, D pc = some n → st.length ≤ n)
    (h : zStep C cd rb τ (fun pc ls st u => (∀ n, D pc = some n → st.length ≤ n) → P pc ls st u) Q pc ls st u) : zStep C cd rb τ P Q pc ls st u := by
  unfold zStep at h ⊢
  cases hq : zLk cd pc with
  | none => rw [hq] at h; exact False.elim h
  | some x =>
    rw [hq] at h
    have hk := hck x hq
    obtain ⟨i, n, a, b, k, v⟩ := x
    dsimp only at h ⊢
    cases i
    all_goals first | exact absurd hk Bool.false_ne_true | skip
    all_goals try dsimp only at h ⊢
    case aload_n j =>
      obtain ⟨x, hx, h⟩ := zLr_e h
      unfold zLr; rw [hx]
      exact h (yLe_u hk hl (by simp only [List.length_cons]; omega))
    case aload j =>
      obtain ⟨x, hx, h⟩ := zLr_e h
      unfold zLr; rw [hx]
      exact h (yLe_u hk hl (by simp only [List.length_cons]; omega))
    case iload_n j =>
      obtain ⟨x, hx, h⟩ := zLi_e h
      unfold zLi; rw [hx]
      exact h (yLe_u hk hl (by simp only [List.length_cons]; omega))
    case iload j =>
      obtain ⟨x, hx, h⟩ := zLi_e h
      unfold zLi; rw [hx]
      exact h (yLe_u hk hl (by simp only [List.length_cons]; omega))
    case iconst z => exact h (yLe_u hk hl (by simp only [List.length_cons]; omega))
    case bipush z => exact h (yLe_u hk hl (by simp only [List.length_cons]; omega))
    case sipush z => exact h (yLe_u hk hl (by simp only [List.length_cons]; omega))
    case istore_n j =>
      obtain ⟨x, r, rfl, h⟩ := zI1_e h
      exact h (yLe_u hk hl (by simp only [List.length_cons]; omega))
    case istore j =>
      obtain ⟨x, r, rfl, h⟩ := zI1_e h
      exact h (yLe_u hk hl (by simp only [List.length_cons]; omega))
    case iinc j z =>
      obtain ⟨x, hx, h⟩ := zLi_e h
      unfold zLi; rw [hx]
      exact h (yLe_u hk hl (by omega))
    case iadd =>
      obtain ⟨y, x, r, rfl, h⟩ := zI2_e h
      exact h (yLe_u hk hl (by simp only [List.length_cons]; omega))
    case isub =>
      obtain ⟨y, x, r, rfl, h⟩ := zI2_e h
      exact h (yLe_u hk hl (by simp only [List.length_cons]; omega))
    case imul =>
      obtain ⟨y, x, r, rfl, h⟩ := zI2_e h
      exact h (yLe_u hk hl (by simp only [List.length_cons]; omega))
    case idiv =>
      obtain ⟨y, x, r, rfl, h0, h⟩ := zI2_e h
      exact ⟨h0, h (yLe_u hk hl (by simp only [List.length_cons]; omega))⟩
    case dup =>
      obtain ⟨x, r, rfl, h0, h⟩ := zV1_e h
      exact ⟨h0, h (yLe_u hk hl (by simp only [List.length_cons]; omega))⟩
    case dup2 =>
      obtain ⟨x, y, r, rfl, h0, h⟩ := zV2_e h
      exact ⟨h0, h (yLe_u hk hl (by simp only [List.length_cons]; omega))⟩
    case goto o => exact zJ_ml (fun t e g => g (yLe_u (by rw [← e]; exact hk) hl (by omega))) h
    case ifCond q o =>
      obtain ⟨x, r, rfl, h⟩ := zI1_e h
      obtain ⟨k1, k2⟩ := Bool.and_eq_true_iff.mp hk
      exact zJ_ml (fun t e g => zC1_m (fun g => g (yLe_u (by rw [← e]; exact k1) hl (by simp only [List.length_cons]; omega))) (fun g => g (yLe_u k2 hl (by simp only [List.length_cons]; omega))) g) h
    case if_icmp q o =>
      obtain ⟨y, x, r, rfl, h⟩ := zI2_e h
      obtain ⟨k1, k2⟩ := Bool.and_eq_true_iff.mp hk
      exact zJ_ml (fun t e g => zC2_m (fun g => g (yLe_u (by rw [← e]; exact k1) hl (by simp only [List.length_cons]; omega))) (fun g => g (yLe_u k2 hl (by simp only [List.length_cons]; omega))) g) h
    case tableswitch o lo hi os =>
      obtain ⟨x, r, rfl, h0, h1, h2⟩ := zI1_e h
      obtain ⟨k1, k2⟩ := Bool.and_eq_true_iff.mp hk
      refine ⟨h0, fun e => zJ_ml (fun t e2 g => g (fun n hn => ?_)) (h1 e), zSw_ml os.toList lo (fun o2 ho t e2 g => g (fun n hn => ?_)) h2⟩
      · rw [e2, hn] at k1; cases k1
      · have k3 := List.all_eq_true.mp k2 o2 ho
        rw [e2, hn] at k3; cases k3
    case getfield idx =>
      obtain ⟨x, r, rfl, h0, h⟩ := zR1_e h
      refine ⟨h0, ?_⟩
      cases hf : (zFk a)[b]? with
      | none => rw [hf] at h; exact h
      | some o =>
        rw [hf] at h
        cases o with
        | none => exact h (yLe_u hk hl (by simp only [List.length_cons]; omega))
        | some o => exact h (yLe_u hk hl (by simp only [List.length_cons]; omega))
    case putfield idx =>
      obtain ⟨y, x, r, rfl, h0, h⟩ := zIR_e h
      refine ⟨h0, ?_⟩
      cases hf : (zFk a)[b]? with
      | none => rw [hf] at h; exact h
      | some o =>
        rw [hf] at h
        cases o with
        | some o => exact h
        | none =>
          cases k with
          | zero => exact h (yLe_u hk hl (by simp only [List.length_cons]; omega))
          | succ k => exact ⟨h.1, h.2 (yLe_u hk hl (by simp only [List.length_cons]; omega))⟩
    case iaload =>
      obtain ⟨y, x, r, rfl, h0, h⟩ := zIR_e h
      exact ⟨h0, h (yLe_u hk hl (by simp only [List.length_cons]; omega))⟩
    case iastore =>
      obtain ⟨w, y, x, r, rfl, h0, h⟩ := zIIR_e h
      exact ⟨h0, h (yLe_u hk hl (by simp only [List.length_cons]; omega))⟩
    case ireturn => exact h
    case return_ => exact h
    case new idx => exact h
    case invokevirtual idx =>
      have k1 : k ≠ 50 ∧ k ≠ 51 ∧ yLe D pc (pc + 3) 1 (b + 1) = true := by
        simp only [yDk, Bool.and_eq_true, Bool.not_eq_true', decide_eq_false_iff_not] at hk
        exact ⟨hk.1.1, hk.1.2, hk.2⟩
      obtain ⟨k50, k51, k1⟩ := k1
      split at h
      · exact absurd rfl k50
      · exact absurd rfl k51
      · refine zPop_ml b st [] (fun as st1 e g => ?_) h
        obtain ⟨x, r, rfl, h0, h1, h2⟩ := zR1_e g
        refine ⟨h0, h1, h2.imp (fun g => ?_) id⟩
        rw [yCf (P := P) (ls := ls) k1 hl (by simp only [List.length_cons] at e; omega)] at g
        exact g
    case invokestatic idx =>
      rcases k with _ | _ | _ | k
      · refine zPop_ml b st [] (fun as r e g => ?_) h
        refine ⟨g.1, g.2.imp (fun g => ?_) id⟩
        rw [yCf (P := P) (ls := ls) hk hl (by omega)] at g
        exact g
      · obtain ⟨y, x, r, rfl, h0, h⟩ := zI2_e h
        exact ⟨h0, h (yLe_u hk hl (by simp only [List.length_cons]; omega))⟩
      · obtain ⟨y, x, r, rfl, h0, h⟩ := zI2_e h
        exact ⟨h0, h (yLe_u hk hl (by simp only [List.length_cons]; omega))⟩
      · exact absurd hk Bool.false_ne_true
/-- the words of the throws -/
def yEw : List Jvm.Cond := (yExs.map fun q => .classLink RX11 q.2.2.1 q.2.1 :: .initialized q.2.1 :: (yAtS RX11 q.2.2.2 q.2.1).filter goodWord).flatten
def yTS : List Jvm.Cond := zTS ++ yEw
def yW (y : Nat) : List Jvm.Cond := .code (zY y) (zBy y) (zMx y) (zRt y) :: yTS
def yRt (d : Nat) : Room := { frames := d + 8, cells := 1, slots := 6, locals := 64 * d + 600 }
theorem yEw_good : yEw.all goodWord = true := by decide +kernel
theorem yTS_good : ∀ w ∈ yTS, (w.onTables && w.keeps) = true ∨ ∃ ty, w = .arrayClass ty := by
  intro w hw
  rcases List.mem_append.mp hw with h | h
  · exact zTS_good w h
  · exact good_of_word (List.all_eq_true.mp yEw_good w h)
def yBad (C : String) : List Jvm.Cond := .castable C C :: yDn.map fun c => .declares (Bundle.initS c)
theorem yEx_ok : (yExs.all fun q => Bundle.fit q.2.1 && (Jvm.Cond.classLink RX11 q.2.2.1 q.2.1 :: .initialized q.2.1 :: yAtS RX11 q.2.2.2 q.2.1).all vx_ot && ((yAtS RX11 q.2.2.2 q.2.1).filter fun w => !goodWord w).all fun w => decide (w ∈ yBad q.2.1)) = true := by decide +kernel
theorem yEn_ok : ∀ n ∈ yEn, Bundle.fit n = true := by decide +kernel
/-- what a throw leaves -/
def yXC (n : Nat) (E : zE) (Q : Option Value → zM → Prop) : String → State → State → Prop := fun C st t => (∃ (q : Int32 × String × Nat × Nat) (u : zM), q ∈ yExs ∧ q.2.1 = C ∧ Q (some (.int q.1)) u ∧ yB n E u t) ∧ va_F (zA E) st t
theorem yH.kept {n : Nat} {E : zE} {u : zM} {H H1 : Heap} (h : yH n E u H) (hs : H.size ≤ H1.size) (hq : ∀ q : Nat, q < H.size → H1[q]? = H[q]?) : yH n E u H1 := ⟨h.1.kept fun k q hk => hq _ (vx_lt h.1 hk), h.2.1, Nat.le_trans h.2.2 hs⟩
