/-! the world of the first n cells (143; 142 while the last is not made yet), with what is known of texts -/
def yWs (n : Nat) (E : zE) (u : zM) : va_W := (List.range n).map fun k => (zAd E k, zCont E (u k) k)
def yH (n : Nat) (E : zE) (u : zM) (H : Heap) : Prop := va_P E.1 vwCl (yWs n E u) H ∧ va_D (zA E) (yWs n E u) ∧ E.2.2.2 ≤ H.size
def yB (n : Nat) (E : zE) (u : zM) (U : State) : Prop := va_K E.1 vwCl (zTys E) U ∧ yH n E u U.heap
def yQ (n : Nat) (E : zE) (Q : Option Value → zM → Prop) : Array Value → State → Outcome → State → Prop := fun _ st oc t => (∃ (v : Option Value) (u : zM), oc = .returned v ∧ zRet v ∧ Q v u ∧ yB n E u t) ∧ va_F (zA E) st t
theorem yWs_at (E : zE) (u : zM) {n k : Nat} (hk : k < n) : (yWs n E u)[k]? = some (zAd E k, zCont E (u k) k) := by
  simp only [yWs, List.getElem?_map, List.getElem?_range hk, Option.map_some]
theorem yWs_up (E : zE) (u : zM) {n k : Nat} (hk : k < n) (f : Nat → Int32) : (yWs n E u).set k (zAd E k, zCont E f k) = yWs n E (zRow u k f) := by
  apply List.ext_getElem?
  intro i
  rcases Nat.lt_or_ge i n with hi | hi
  · rw [yWs_at E _ hi]
    by_cases h : i = k
    · subst h
      rw [List.getElem?_set_self (by simp [yWs]; exact hk), zRow_self]
    · rw [List.getElem?_set_ne (Ne.symm h), yWs_at E u hi, zRow_ne u f h]
  · rw [List.getElem?_eq_none (by simp [yWs]; exact hi), List.getElem?_eq_none (by simp [yWs]; exact hi)]
theorem yHup {E : zE} {u : zM} {H1 : Heap} {n k : Nat} {f : Nat → Int32} (hk : k < n) (hS : E.2.2.2 ≤ H1.size) (hP : va_P E.1 vwCl ((yWs n E u).set k (zAd E k, zCont E f k)) H1) (hD : va_D (zA E) ((yWs n E u).set k (zAd E k, zCont E f k))) : yH n E (zRow u k f) H1 := by
  rw [yWs_up E u hk] at hP hD
  exact ⟨hP, hD, hS⟩
/-- the places that a world of 142 cells has, too -/
theorem yLt {n x : Nat} {y : zSh} (hn : n = 143 ∨ (n = 142 ∧ y ≠ .inr (2, 1))) (h : zShapes[x]? = some y) : x < n := by
  have hx := zSh_lt h
  rcases hn with rfl | ⟨rfl, hy⟩
  · exact hx
  · by_cases e : x = 142
    · subst e
      have : zShapes[142]? = some (.inr (2, 1)) := by decide +kernel
      rw [this] at h
      exact absurd (Option.some.inj h).symm hy
    · omega
/-- the exceptions by their numbers: class, its link, its constructor -/
def yExs : List (Int32 × String × Nat × Nat) := [(1, "java/lang/IllegalArgumentException", 96, 100), (2, "java/lang/IndexOutOfBoundsException", 419, 423), (3, "java/lang/IllegalStateException", 246, 250), (4, "java/lang/UnsupportedOperationException", 110, 114), (5, "java/util/NoSuchElementException", 152, 156)]
def yEn : List String := ["java/lang/RuntimeException", "java/lang/Exception"]
def yDn : List String := ["java/lang/RuntimeException", "java/lang/Exception", Bundle.tN]
def zMsg : List Nat := [98, 112, 154, 190, 208, 236, 241, 248, 323, 349, 370, 421, 424, 426, 428, 430]
def yZX (b : Bool) (E : zE) (U : State) : Prop := ∀ own idx a : Nat, (own, idx, a) ∈ zSs → (own == 12) = b → ∃ tx, vk_R (zOwn own) idx tx (zAd E a) U
theorem yZX.same {b : Bool} {E : zE} {u U : State} (hv : U.vm = u.vm) (h : yZX b E u) : yZX b E U := fun o i a q r => (h o i a q r).imp fun _ z => z.same hv
theorem yZX.warm {b : Bool} {E : zE} {s U : State} (hW : s.WarmedH U.vm) (h : yZX b E s) : yZX b E U := fun o i a q r => (h o i a q r).imp fun _ z => z.warm hW
def ySt (E : zE) (U : State) (H : Heap) : Prop := (∀ x, zStr x → va_O "java/lang/String" (zAd E x) (zA E) U H ∧ va_OF "java/lang/String" "coder" "B" (.int 0) (zAd E x) (zA E) U H ∧ va_OF "java/lang/String" "value" "[B" (.ref (zAd E (x + 1000))) (zAd E x) (zA E) U H ∧ va_T .byte (zAd E (x + 1000)) (zTn (x - 2000)) (fun j => .int ((zTxt.getD (x - 2000) []).getD j 0)) (zA E) U H) ∧
  va_Z "java/lang/String" "COMPACT_STRINGS" "Z" (.int 1) (zA E) U H ∧ va_Zq "jdk/internal/util/Preconditions" "SIOOBE_FORMATTER" "Ljava/util/function/BiFunction;" (zA E) U H ∧ vx_Zq Bundle.tN "UNASSIGNED_STACK" Bundle.steD (zA E) U H ∧ vx_Zq Bundle.tN "SUPPRESSED_SENTINEL" Bundle.listD (zA E) U H
theorem va_Zq.go {C n d : String} {A : Nat → Prop} {u U : State} {H H1 : Heap} (hvm : u.vm.Alike U.vm) (hq : ∀ a : Nat, a < H.size → ¬ A a → H1[a]? = H[a]?) (h : va_Zq C n d A u H) : va_Zq C n d A U H1 := h.imp (fun z => va_Z.moved hvm (z.kept hq)) (fun ⟨t, z⟩ => ⟨t, va_Z.moved hvm (z.kept hq)⟩)
theorem ySt.go {E : zE} {u U : State} {H H1 : Heap} (hvm : u.vm.Alike U.vm) (hq : ∀ a : Nat, a < H.size → ¬ zA E a → H1[a]? = H[a]?) (h : ySt E u H) : ySt E U H1 := by
  obtain ⟨h1, h2, h3, h4, h5⟩ := h
  refine ⟨fun x hx => ?_, va_Z.moved hvm (h2.kept hq), h3.go hvm hq, vx_Zq.moved hvm (h4.kept hq), vx_Zq.moved hvm (h5.kept hq)⟩
  obtain ⟨g1, g2, g3, g4⟩ := h1 x hx
  exact ⟨va_O.moved hvm (g1.kept hq), va_OF.moved hvm (g2.kept hq), va_OF.moved hvm (g3.kept hq), va_T.moved hvm (g4.kept hq)⟩
/-- the texts of the exceptions: some String stands there -/
def yMs (U : State) : Prop := (∀ idx : Nat, idx ∈ zMsg → ∃ tx sa, vk_R "MilkDays" idx tx sa U) ∧ (∀ q ∈ yExs, va_Nw (.castable q.2.1 q.2.1) U) ∧ (∀ c ∈ yDn, va_Nw (.declares (Bundle.initS c)) U) ∧ ∀ q ∈ yExs, ∀ q2 ∈ yExs, q.1 ≠ q2.1 → va_Nc q.2.1 q2.2.1 U
def yX (b : Bool) (E : zE) (U : State) (H : Heap) : Prop := yZX b E U ∧ yMs U ∧ ySt E U H
def yBi (n : Nat) (b : Bool) (E : zE) (u : zM) (U : State) : Prop := yB n E u U ∧ E.2.2.2 ≤ U.heap.size ∧ yX b E U U.heap
theorem yX.warm {b : Bool} {E : zE} {s U : State} {H H1 : Heap} (hW : s.WarmedH U.vm) (hq : ∀ a : Nat, a < H.size → ¬ zA E a → H1[a]? = H[a]?) (h : yX b E s H) : yX b E U H1 := ⟨h.1.warm hW, ⟨fun i hi => by
  obtain ⟨tx, sa, z⟩ := h.2.1.1 i hi
  exact ⟨tx, sa, z.warm hW⟩, fun q hq => (h.2.1.2.1 q hq).warmC hW, fun c hc => (h.2.1.2.2.1 c hc).warmD hW, fun q hq q2 hq2 hne => (h.2.1.2.2.2 q hq q2 hq2 hne).moved hW.alike⟩, h.2.2.go hW.alike hq⟩
theorem yX.same {b : Bool} {E : zE} {u U : State} {H : Heap} (hv : U.vm = u.vm) (h : yX b E u H) : yX b E U H := ⟨yZX.same hv h.1, ⟨fun i hi => by
  obtain ⟨tx, sa, z⟩ := h.2.1.1 i hi
  exact ⟨tx, sa, z.same hv⟩, fun q hq => va_Nw.same (by rfl) hv.symm (h.2.1.2.1 q hq), fun c hc => va_Nw.same (by rfl) hv.symm (h.2.1.2.2.1 c hc), fun q hq q2 hq2 hne => (h.2.1.2.2.2 q hq q2 hq2 hne).moved (by rw [hv]; exact Vm.Alike.refl u.vm)⟩, h.2.2.go (by rw [hv]; exact Vm.Alike.refl u.vm) (fun _ _ _ => rfl)⟩
theorem yBlind (n : Nat) (b : Bool) {E : zE} {u : zM} (as : List Value) : FrameBlind (va_Pc as (yBi n b E u)) := fun _ U g mk q => ⟨q.1, ⟨va_K.moved (u := U) (U := U.calling g mk _) (Vm.Alike.refl U.vm) q.2.1.1, q.2.1.2⟩, q.2.2.1, yX.same (u := U) (U := U.calling g mk _) rfl q.2.2.2⟩
section YC
variable {p : Program} {l : Launch} {e : Env} {R : Room} {s : State} {m : MethodId} {args : Array Value} {below : List Frame} {meth : Method} {c : Code} {H : Heap} {locs : List Loc} {cells slots : Nat} {Z : State → Prop} {cc : ByteArray} {nL n : Nat} {E : zE} {own idx y d : Nat} {Q : Option Value → zM → Prop} {u : zM} {pc : Nat} {L : Array Slot} {rest st0 : List Value} {a : Array Value} {H0 : Heap}
theorem yCall_go (hr : va_Run p l e R s m args below meth c H locs cells slots 0 0 (F0 m pc L st0) rest (yQ n E Q a) (zA E)) (hS : va_S (zA E) H0 H locs)
    (kk : ∀ (v : Option Value) (u1 : zM) (H1 : Heap) (locs1 : List Loc), zRet v → Q v u1 → yH n E u1 H1 → va_S (zA E) H0 H1 locs1 → W p l e R s m args below meth c H1 locs1 cells slots Z (F0 m (pc + 3) L (v.toList ++ rest))) : W p l e R s m args below meth c H locs cells slots Z (F0 m pc L st0) := by
  intro T hT X
  obtain ⟨v, st₀, t, T', L1, h0, X', hL, e1, e2, ⟨⟨w, u1, hv, hz, hq, hb⟩, hF⟩, st⟩ := hr T hT X
  cases hv
  have hsz : H.size ≤ T'.heap.size := by rw [e1, ← h0]; exact hF.1
  have hkp : ∀ q : Nat, q < H.size → ¬ zA E q → T'.heap[q]? = H[q]? := fun q g1 g2 => by rw [e1, ← h0]; exact hF.2 q (by rw [h0]; exact g1) g2
  obtain ⟨t2, a1, b1⟩ := kk v u1 T'.heap (locs ++ L1) hz hq (by rw [e1]; exact hb.2)
    ⟨Nat.le_trans hS.1 hsz, fun q g1 g2 => by rw [hkp q (Nat.lt_of_lt_of_le g1 hS.1) g2]; exact hS.2.1 q g1 g2, fun q hq2 => by
      rcases List.mem_append.mp hq2 with g | g
      · exact hS.2.2 q g
      · exact hL q g⟩ T' rfl X'
  exact ⟨t2, st t2 a1, b1⟩
end YC
