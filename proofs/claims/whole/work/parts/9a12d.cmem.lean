/-! the first memory -/
def bM0 : List bC := [.inr (.inr (10, bDef 10))]
def bMa : List bC := (bCall 6 10 [.ref 0] bM0).getD []
def bMb : List bC := bMa ++ [.inr (.inr (11, bDef 11))]
def bMr : Option (zLs × List Value × List bC) := bRun (bCall 6) bcX12 (bMb.length + 13) (bSz bMb + 14714) 156 200 0 [(0, .ref 128)] [] bMb
def bMc : List bC := match bMr with
  | some (_, _, M) => M
  | none => []
def bPi (k : Nat) : Nat := if k < 61 then k else if k < 121 then k + 7 else if k < 128 then k - 60 else k
def bUc (o : Option bC) (j : Nat) : Int32 := match o with
  | some (.inl (_, _, f)) => f j
  | some (.inr (.inr (_, fs))) => (match fs[j]? with
    | some (.int x) => x
    | _ => 0)
  | _ => 0
def bU : zM := fun k j => bUc bMc[bPi k]? j
def bMk (k : Nat) : Bool := match bMc[bPi k]?, zShapes[k]? with
  | some (.inl (t, n, _)), some (.inr (t2, n2)) => t == t2 && n == n2 && decide (t ≤ 2)
  | some (.inr (.inl l)), some (.inr (t2, n)) => t2 == 3 && l.length == n && (List.range n).all fun i => match l[i]? with
    | some (some x) => x == bPi (k + 1 + 5 * i) && decide (k + 1 + 5 * i < 142)
    | _ => false
  | some (.inr (.inr (ci, fs))), some (.inl c2) => ci == c2 && fs.length == (zFk ci).length && (List.range fs.length).all fun j => match fs[j]?, (zFk ci)[j]? with
    | some (.int _), some none => true
    | some (.ref x), some (some o) => x == bPi (k + o) && decide (k + o < 142)
    | _, _ => false
  | _, _ => false
set_option maxRecDepth 100000 in
theorem bMa_ok : (bCall 6 10 [.ref 0] bM0).isSome = true ∧ bMa.length = 128 ∧ bSz bMa = 10453 ∧ bMa.all (bOc bMa.length) = true := by decide +kernel
set_option maxRecDepth 100000 in
theorem bMc_ok : (match bMr with
  | some (ls, st, M) => decide (ls = [(0, .ref 128)]) && decide (st = [.ref 128]) && decide (M.length = 142) && decide (bSz M = 25195)
  | none => false) = true := by decide +kernel
set_option maxRecDepth 100000 in
theorem bMk_ok : (List.range 142).all bMk = true := by decide +kernel
