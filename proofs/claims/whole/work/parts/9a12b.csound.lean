/-! the constructors' machine is sound -/
section OE
variable {α : Type} {z : α}
theorem oIf_e {b : Bool} {x : Option α} (h : oIf b x = some z) : b = true ∧ x = some z := by
  cases b
  · cases h
  · exact ⟨rfl, h⟩
theorem oI1_e {st : List Value} {k : Int32 → List Value → Option α} (h : oI1 st k = some z) : ∃ x r, st = .int x :: r ∧ k x r = some z := by
  unfold oI1 at h
  split at h
  · exact ⟨_, _, rfl, h⟩
  · cases h
theorem oI2_e {st : List Value} {k : Int32 → Int32 → List Value → Option α} (h : oI2 st k = some z) : ∃ y x r, st = .int y :: .int x :: r ∧ k y x r = some z := by
  unfold oI2 at h
  split at h
  · exact ⟨_, _, _, rfl, h⟩
  · cases h
theorem oR1_e {st : List Value} {k : Nat → List Value → Option α} (h : oR1 st k = some z) : ∃ x r, st = .ref x :: r ∧ k x r = some z := by
  unfold oR1 at h
  split at h
  · exact ⟨_, _, rfl, h⟩
  · cases h
theorem oV1_e {st : List Value} {k : Value → List Value → Option α} (h : oV1 st k = some z) : ∃ x r, st = x :: r ∧ k x r = some z := by
  unfold oV1 at h
  split at h
  · exact ⟨_, _, rfl, h⟩
  · cases h
theorem oVR_e {st : List Value} {k : Value → Nat → List Value → Option α} (h : oVR st k = some z) : ∃ w x r, st = w :: .ref x :: r ∧ k w x r = some z := by
  unfold oVR at h
  split at h
  · exact ⟨_, _, _, rfl, h⟩
  · cases h
theorem oIR_e {st : List Value} {k : Int32 → Nat → List Value → Option α} (h : oIR st k = some z) : ∃ w x r, st = .int w :: .ref x :: r ∧ k w x r = some z := by
  unfold oIR at h
  split at h
  · exact ⟨_, _, _, rfl, h⟩
  · cases h
theorem oIIR_e {st : List Value} {k : Int32 → Int32 → Nat → List Value → Option α} (h : oIIR st k = some z) : ∃ w i x r, st = .int w :: .int i :: .ref x :: r ∧ k w i x r = some z := by
  unfold oIIR at h
  split at h
  · exact ⟨_, _, _, _, rfl, h⟩
  · cases h
theorem oRIR_e {st : List Value} {k : Nat → Int32 → Nat → List Value → Option α} (h : oRIR st k = some z) : ∃ w i x r, st = .ref w :: .int i :: .ref x :: r ∧ k w i x r = some z := by
  unfold oRIR at h
  split at h
  · exact ⟨_, _, _, _, rfl, h⟩
  · cases h
theorem oLi_e {ls : zLs} {i : Nat} {k : Int32 → Option α} (h : oLi ls i k = some z) : ∃ x, zLk ls i = some (.int x) ∧ k x = some z := by
  unfold oLi at h
  split at h
  · exact ⟨_, by assumption, h⟩
  · cases h
theorem oLr_e {ls : zLs} {i : Nat} {k : Nat → Option α} (h : oLr ls i k = some z) : ∃ x, zLk ls i = some (.ref x) ∧ k x = some z := by
  unfold oLr at h
  split at h
  · exact ⟨_, by assumption, h⟩
  · cases h
theorem oJ_e {pc : Nat} {o : Int} {k : Nat → Option α} (h : oJ pc o k = some z) : ∃ t : Nat, (pc : Int) + o = (t : Int) ∧ k t = some z := by
  unfold oJ at h
  split at h
  · rename_i t e
    exact ⟨t, e, h⟩
  · cases h
theorem oA_e {M : List bC} {x : Nat} {k : Nat → (Nat → Int32) → Option α} (h : oA M x k = some z) : ∃ n f, M[x]? = some (.inl (0, n, f)) ∧ k n f = some z := by
  unfold oA at h
  split at h
  · exact ⟨_, _, by assumption, h⟩
  · cases h
theorem oQ_e {M : List bC} {x : Nat} {k : List (Option Nat) → Option α} (h : oQ M x k = some z) : ∃ l, M[x]? = some (.inr (.inl l)) ∧ k l = some z := by
  unfold oQ at h
  split at h
  · exact ⟨_, by assumption, h⟩
  · cases h
theorem oO_e {M : List bC} {x a : Nat} {k : List Value → Option α} (h : oO M x a k = some z) : ∃ fs, M[x]? = some (.inr (.inr (a, fs))) ∧ k fs = some z := by
  unfold oO at h
  split at h
  · obtain ⟨h1, h2⟩ := oIf_e h
    have e := eq_of_beq h1
    subst e
    exact ⟨_, by assumption, h2⟩
  · cases h
end OE
/-- a cell of the list, where the places stand for addresses -/
def bCo (E : zE) : bC → va_E
  | .inl (0, n, f) => .inl (E.2.1 0, (n, .inl f))
  | .inl (1, n, f) => .inl (E.2.1 1, (n, .inl f))
  | .inl (_, n, f) => .inl (E.2.1 2, (n, .inr (.inl (fun j => (f j).toInt64))))
  | .inr (.inl l) => .inl (E.2.1 3, (l.length, .inr (.inr (.inr (.inr (fun i => (l.getD i none).map (zAd E)))))))
  | .inr (.inr (ci, fs)) => .inr (ci, fs.map (zCv (zAd E)))
def bWs (E : zE) (M : List bC) : va_W := M.mapIdx fun k c => (zAd E k, bCo E c)
def zEa (E : zE) (ad : Nat → Nat) : zE := (E.1, E.2.1, ad, E.2.2.2)
def bAd (ad : Nat → Nat) (n q : Nat) : Nat → Nat := fun k => if k = n then q else ad k
def bH (E : zE) (M : List bC) (H : Heap) : Prop := va_P E.1 vwCl (bWs E M) H ∧ va_D (zA E) (bWs E M) ∧ E.2.2.2 ≤ H.size
theorem bWs_at (E : zE) (M : List bC) (k : Nat) : (bWs E M)[k]? = (M[k]?).map fun c => (zAd E k, bCo E c) := by
  simp [bWs, List.getElem?_mapIdx]
theorem bWs_at1 {E : zE} {M : List bC} {k : Nat} {c : bC} (h : M[k]? = some c) : (bWs E M)[k]? = some (zAd E k, bCo E c) := by
  rw [bWs_at, h]; rfl
theorem bWs_set (E : zE) {M : List bC} {x : Nat} {c0 : bC} (hx : M[x]? = some c0) (c : bC) : (bWs E M).set x (zAd E x, bCo E c) = bWs E (M.set x c) := by
  have hl := (List.getElem?_eq_some_iff.mp hx).1
  have hl2 : x < (bWs E M).length := by simpa [bWs] using hl
  apply List.ext_getElem?
  intro i
  rw [bWs_at]
  by_cases h : i = x
  · subst h
    rw [List.getElem?_set_self hl2, List.getElem?_set_self hl]; rfl
  · rw [List.getElem?_set_ne (Ne.symm h), List.getElem?_set_ne (Ne.symm h), bWs_at]
theorem bCv_ag {n : Nat} {ad ad1 : Nat → Nat} (h : ∀ k, k < n → ad1 k = ad k) (v : Value) (hv : bRf n v = true) : zCv ad1 v = zCv ad v := by
  cases v <;> first | rfl | (show Value.ref _ = Value.ref _; rw [h _ (of_decide_eq_true hv)])
theorem bCvs_ag {n : Nat} {ad ad1 : Nat → Nat} (h : ∀ k, k < n → ad1 k = ad k) (l : List Value) (hl : l.all (bRf n) = true) : l.map (zCv ad1) = l.map (zCv ad) := List.map_congr_left fun v hv => bCv_ag h v (List.all_eq_true.mp hl v hv)
theorem bCl_ag {n : Nat} {ad ad1 : Nat → Nat} (h : ∀ k, k < n → ad1 k = ad k) (l : zLs) (hl : l.all (fun q => bRf n q.2) = true) : zCl ad1 l = zCl ad l := List.map_congr_left fun q hq => by rw [bCv_ag h q.2 (List.all_eq_true.mp hl q hq)]
theorem bCo_ag {E : zE} {n : Nat} {ad ad1 : Nat → Nat} (h : ∀ k, k < n → ad1 k = ad k) (c : bC) (hc : bOc n c = true) : bCo (zEa E ad1) c = bCo (zEa E ad) c := by
  match c, hc with
  | .inl (0, _, _), _ => rfl
  | .inl (1, _, _), _ => rfl
  | .inl (_ + 2, _, _), _ => rfl
  | .inr (.inl l), hc =>
    have e : (fun i => (l.getD i none).map ad1) = fun i => (l.getD i none).map ad := by
      funext i
      rw [List.getD_eq_getElem?_getD]
      cases hi : l[i]? with
      | none => rfl
      | some o =>
        cases o with
        | none => rfl
        | some x =>
          have h2 := List.all_eq_true.mp hc (some x) (List.mem_of_getElem? hi)
          show some (ad1 x) = some (ad x)
          rw [h x (of_decide_eq_true h2)]
    show Sum.inl (E.2.1 3, (l.length, Sum.inr (Sum.inr (Sum.inr (Sum.inr (fun i => (l.getD i none).map ad1)))))) = Sum.inl (E.2.1 3, (l.length, Sum.inr (Sum.inr (Sum.inr (Sum.inr (fun i => (l.getD i none).map ad))))))
    rw [e]
  | .inr (.inr (ci, fs)), hc =>
    show Sum.inr (ci, fs.map (zCv ad1)) = Sum.inr (ci, fs.map (zCv ad))
    rw [bCvs_ag h fs hc]
theorem bAd_ag (ad : Nat → Nat) (n q : Nat) : ∀ k, k < n → bAd ad n q k = ad k := fun k hk => if_neg (by omega)
theorem bWs_push {E : zE} {ad : Nat → Nat} {M : List bC} {q : Nat} {c : bC} (hM : M.all (bOc M.length) = true) : bWs (zEa E (bAd ad M.length q)) (M ++ [c]) = bWs (zEa E ad) M ++ [(q, bCo (zEa E (bAd ad M.length q)) c)] := by
  have hlen : (bWs (zEa E ad) M).length = M.length := by simp [bWs]
  apply List.ext_getElem?
  intro i
  rw [bWs_at]
  rcases Nat.lt_trichotomy i M.length with h | h | h
  · rw [List.getElem?_append_left h, List.getElem?_append_left (by rw [hlen]; exact h), bWs_at, List.getElem?_eq_getElem h]
    show some (bAd ad M.length q i, _) = some (ad i, _)
    rw [bAd_ag _ _ _ i h, bCo_ag (bAd_ag ad M.length q) _ (List.all_eq_true.mp hM _ (List.getElem_mem h))]
  · subst h
    rw [List.getElem?_append_right (Nat.le_refl _), List.getElem?_append_right (by rw [hlen]; exact Nat.le_refl _), hlen, Nat.sub_self]
    show some (bAd ad M.length q M.length, _) = some (q, _)
    rw [show bAd ad M.length q M.length = q from if_pos rfl]
  · rw [List.getElem?_eq_none (by simp; omega), List.getElem?_eq_none (by rw [List.length_append, hlen]; simp; omega)]
    rfl
theorem bSz_push (M : List bC) (c : bC) : bSz (M ++ [c]) = bSz M + bS c := by simp [bSz]
theorem bSz_set {M : List bC} {x : Nat} {c0 c : bC} (h : M[x]? = some c0) (hs : bS c = bS c0) : bSz (M.set x c) = bSz M := by
  have e : (M.set x c).map bS = M.map bS := by
    apply List.ext_getElem?
    intro i
    have hl := (List.getElem?_eq_some_iff.mp h).1
    rw [List.getElem?_map, List.getElem?_map]
    by_cases hi : i = x
    · subst hi
      rw [List.getElem?_set_self hl, h]
      show some (bS c) = some (bS c0)
      rw [hs]
    · rw [List.getElem?_set_ne (Ne.symm hi)]
  unfold bSz
  rw [e]
/-- the words -/
def bWd : List Jvm.Cond := (zWc.take 7).flatten
theorem bWd_in {w : Jvm.Cond} (h : w ∈ bWd) : w ∈ zTS := by
  obtain ⟨L, h1, h2⟩ := List.mem_flatten.mp h
  exact List.mem_append_left _ (List.mem_flatten.mpr ⟨L, List.mem_of_mem_take h1, h2⟩)
def bCn (a : Nat) : String := (vwCl.getD a ("", TX0, 0)).1
def bOI (own nL : Nat) (x : zIn) : Bool := match x with
  | (i, n, a, b, k, v) => match i with
    | .iadd => decide (n = 1)
    | .imul => decide (n = 1)
    | .dup => decide (n = 1)
    | .iload_n _ => decide (n = 1)
    | .aload_n _ => decide (n = 1)
    | .arraylength => decide (n = 1)
    | .iastore => decide (n = 1)
    | .aastore => decide (n = 1)
    | .iconst z => decide (n = 1) && decide (Int32.ofInt z = v)
    | .bipush z => decide (n = 2) && decide ((Int8.ofInt z).toInt32 = v)
    | .sipush z => decide (n = 3) && decide ((Int16.ofInt z).toInt32 = v)
    | .istore_n j => decide (n = 1) && decide (j.val < nL)
    | .astore_n j => decide (n = 1) && decide (j.val < nL)
    | .iinc j z => decide (n = 3) && decide (Int32.ofInt z = v) && decide (j < nL)
    | .goto _ => decide (n = 3)
    | .if_icmp _ _ => decide (n = 3)
    | .new idx => decide (n = 3) && decide (a < 12) && decide (.classLink (zOwn own) idx (bCn a) ∈ bWd) && decide (.instantiable (bCn a) (zFk a).length ∈ bWd) && decide (.initialized (bCn a) ∈ bWd)
    | .newarray t => decide (n = 2) && (match t, a with
      | .int, 0 => true
      | .byte, 1 => true
      | .long, 2 => true
      | _, _ => false) && decide (.arrayClass (newarray.typeOf t) ∈ bWd)
    | .anewarray idx => decide (n = 3) && decide (.classLink (zOwn own) idx RX1 ∈ bWd)
    | .getfield idx => decide (n = 3) && decide (a < 12) && decide (b < (zFk a).length) && decide (.fieldLink (zOwn own) idx (zFt a b).1 (zFt a b).2.1 (zFt a b).2.2.1 ∈ bWd)
    | .putfield idx => decide (n = 3) && decide (a < 12) && decide (b < (zFk a).length) && decide (.fieldLink (zOwn own) idx (zFt a b).1 (zFt a b).2.1 (zFt a b).2.2.1 ∈ bWd) && decide ((zFt a b).1 = zOwn own) && (match parseFieldDescriptor (zFt a b).2.2.1, k with
      | some .int, 0 => true
      | some (.object _), 1 => true
      | some (.array _), 1 => true
      | _, _ => false)
    | .invokespecial idx => decide (n = 3) && (match k with
      | 0 => decide (.methodLink (zOwn own) idx objectInit ∈ bWd)
      | 1 => decide ((own, idx, a) ∈ bNs)
      | _ => decide (.methodLink (zOwn own) idx (bY a) ∈ bWd))
    | .invokestatic idx => decide (n = 3) && decide (.methodLink (zOwn own) idx (bY 12) ∈ bWd)
    | _ => true
set_option maxRecDepth 100000 in
theorem bTk_ok : (bTb.all fun t => t.2.2.2.2.2.2.2.all fun x => decide (decode t.2.1 x.1 = .ok (x.2.1, x.2.2.1)) && bOI t.2.2.2.1 t.2.2.1 x.2) = true := by decide +kernel
set_option maxRecDepth 100000 in
theorem bMw_ok : ((List.range 13).all fun y => decide (.code (bY y) (bBy y) (bMx y) none ∈ bWd) && decide (.initialized (bY y).cls ∈ bWd) && decide (bMx y ≤ 30) && decide ((parseMethodDescriptor (bY y).desc).map (fun d => d.parameters.length) = some (if y = 12 then 2 else 0)) && plainName (bY y).cls && decide ((bY y).cls ≠ "java/lang/invoke/MethodHandle") && decide ((bY y).cls ≠ "java/lang/invoke/VarHandle") && decide (zOwn (bOw y) = (bY y).cls) && (if y = 12 then decide (.static (bY y) ∈ bWd) else (decide ((bY y).name = "<init>") && decide (.instanceMethod (bY y) ∈ bWd))) && (decide (y = 11) || decide (decode (bBy y) (bSp y) = .ok (.return_, 1)))) = true := by decide +kernel
set_option maxRecDepth 100000 in
theorem bOb_ok : (.instanceMethod objectInit ∈ bWd) ∧ (.code objectInit ⟨#[0xb1]⟩ 1 none ∈ bWd) := by decide +kernel
def bVq : Value → Value → Bool
  | .int x, .int y => decide (x = y)
  | .null, .null => true
  | _, _ => false
theorem bVq_e {v w : Value} (h : bVq v w = true) : v = w := by
  unfold bVq at h
  split at h
  · rw [of_decide_eq_true h]
  · rfl
  · cases h
set_option maxRecDepth 100000 in
theorem bDef_ok : ((List.range 12).all fun a => (List.range (zFk a).length).all fun k => match parseFieldDescriptor (zFt a k).2.2.1 with
  | some ty => bVq (defaultValue ty) (vp_V (bDef a) k)
  | none => false) = true := by decide +kernel
