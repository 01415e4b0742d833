abbrev vwCl : List vw_C := [(RX0, TX0, 6), (RX1, TX1, 12), (RX2, TX2, 9), (RX3, TX3, 3), (RX4, TX4, 1), (RX5, TX5, 2), (RX6, TX6, 4), (RX7, TX7, 5), (RX9, TX9, 2), (RX10, TX10, 5), (RX11, TX11, 12), (RX12, TX12, 28)]
abbrev zM : Type := Nat → Nat → Int32
def zRow (u : zM) (k : Nat) (f : Nat → Int32) : zM := fun a => if a = k then f else u a
def zUp (u : zM) (k j : Nat) (v : Int32) : zM := zRow u k (upd (u k) j v)
theorem zRow_self (u : zM) (k : Nat) (f : Nat → Int32) : zRow u k f k = f := by simp [zRow]
theorem zRow_ne (u : zM) {k a : Nat} (f : Nat → Int32) (h : a ≠ k) : zRow u k f a = u a := by simp [zRow, h]
abbrev zSh : Type := Nat ⊕ (Nat × Nat)
abbrev zLs : Type := List (Nat × Value)
abbrev zIn : Type := Instr × Nat × Nat × Nat × Nat × Int32
abbrev zCd : Type := List (Nat × zIn)
def zLk {α : Type} : List (Nat × α) → Nat → Option α
  | [], _ => none
  | (j, v) :: t, i => match Nat.beq j i with
    | true => some v
    | false => zLk t i
def zSet (l : zLs) (i : Nat) (v : Value) : zLs := (i, v) :: l.filter (fun q => !(q.1 == i) && !(q.1 + 1 == i && q.2.category == 2))
-- what stands on the stack
def zI1 (st : List Value) (k : Int32 → List Value → Prop) : Prop := match st with
  | .int x :: r => k x r
  | _ => False
def zI2 (st : List Value) (k : Int32 → Int32 → List Value → Prop) : Prop := match st with
  | .int y :: .int x :: r => k y x r
  | _ => False
def zR1 (st : List Value) (k : Nat → List Value → Prop) : Prop := match st with
  | .ref a :: r => k a r
  | _ => False
def zIR (st : List Value) (k : Int32 → Nat → List Value → Prop) : Prop := match st with
  | .int i :: .ref a :: r => k i a r
  | _ => False
def zIIR (st : List Value) (k : Int32 → Int32 → Nat → List Value → Prop) : Prop := match st with
  | .int x :: .int i :: .ref a :: r => k x i a r
  | _ => False
def zLIR (st : List Value) (k : Int64 → Int32 → Nat → List Value → Prop) : Prop := match st with
  | .long x :: .int i :: .ref a :: r => k x i a r
  | _ => False
def zL2 (st : List Value) (k : Int64 → Int64 → List Value → Prop) : Prop := match st with
  | .long y :: .long x :: r => k y x r
  | _ => False
def zV1 (st : List Value) (k : Value → List Value → Prop) : Prop := match st with
  | v :: r => k v r
  | _ => False
def zV2 (st : List Value) (k : Value → Value → List Value → Prop) : Prop := match st with
  | v :: w :: r => k v w r
  | _ => False
def zCpy (st : List Value) (k : Int32 → Int32 → Nat → Int32 → Nat → List Value → Prop) : Prop := match st with
  | .int n :: .int dp :: .ref a :: .int sp :: .ref a0 :: r => k n dp a sp a0 r
  | _ => False
def zPop : Nat → List Value → List Value → (List Value → List Value → Prop) → Prop
  | 0, st, acc, k => k acc st
  | n + 1, v :: st, acc, k => zPop n st (v :: acc) k
  | _ + 1, [], _, _ => False
def zJ (pc : Nat) (off : Int) (k : Nat → Prop) : Prop := match (pc : Int) + off with
  | .ofNat t => k t
  | .negSucc _ => False
def zLi (ls : zLs) (i : Nat) (k : Int32 → Prop) : Prop := match zLk ls i with
  | some (.int x) => k x
  | _ => False
def zLr (ls : zLs) (i : Nat) (k : Nat → Prop) : Prop := match zLk ls i with
  | some (.ref x) => k x
  | _ => False
def zC1 (c : Jvm.ClassFile.Cond) (x : Int32) (A B : Prop) : Prop := match c with
  | .eq => (x = 0 → A) ∧ (¬ x = 0 → B)
  | .ne => (¬ x = 0 → A) ∧ (x = 0 → B)
  | .lt => (x < 0 → A) ∧ (¬ x < 0 → B)
  | .ge => (0 ≤ x → A) ∧ (¬ 0 ≤ x → B)
  | .gt => (0 < x → A) ∧ (¬ 0 < x → B)
  | .le => (x ≤ 0 → A) ∧ (¬ x ≤ 0 → B)
def zC2 (c : Jvm.ClassFile.Cond) (y x : Int32) (A B : Prop) : Prop := match c with
  | .eq => (x = y → A) ∧ (¬ x = y → B)
  | .ne => (¬ x = y → A) ∧ (x = y → B)
  | .lt => (x < y → A) ∧ (¬ x < y → B)
  | .ge => (y ≤ x → A) ∧ (¬ y ≤ x → B)
  | .gt => (y < x → A) ∧ (¬ y < x → B)
  | .le => (x ≤ y → A) ∧ (¬ x ≤ y → B)
def zSw (pc : Nat) (x : Int32) (k : Nat → Prop) : List Int → Int → Prop
  | [], _ => True
  | o :: t, i => (x.toInt = i → zJ pc o k) ∧ zSw pc x k t (i + 1)
def zShapes : List zSh := [.inl 10, .inl 7, .inr (0, 400), .inl 6, .inl 1, .inr (0, 72), .inr (0, 8), .inl 3, .inr (0, 240), .inl 5, .inr (0, 144), .inr (0, 144), .inl 2, .inr (0, 12), .inr (0, 12), .inr (0, 12), .inr (0, 12), .inr (0, 400), .inr (0, 32), .inl 0, .inr (0, 8), .inr (0, 8), .inl 6, .inl 1, .inr (0, 72), .inr (0, 8), .inl 3, .inr (0, 240), .inl 5, .inr (0, 144), .inr (0, 144), .inl 2, .inr (0, 12), .inr (0, 12), .inr (0, 12), .inr (0, 12), .inr (0, 400), .inr (0, 32), .inl 0, .inr (0, 8), .inr (0, 8), .inl 6, .inl 1, .inr (0, 72), .inr (0, 8), .inl 3, .inr (0, 240), .inl 5, .inr (0, 144), .inr (0, 144), .inl 2, .inr (0, 12), .inr (0, 12), .inr (0, 12), .inr (0, 12), .inr (0, 400), .inr (0, 32), .inl 0, .inr (0, 8), .inr (0, 8), .inr (3, 12), .inl 1, .inr (0, 72), .inr (0, 8), .inl 3, .inr (0, 240), .inl 1, .inr (0, 72), .inr (0, 8), .inl 3, .inr (0, 240), .inl 1, .inr (0, 72), .inr (0, 8), .inl 3, .inr (0, 240), .inl 1, .inr (0, 72), .inr (0, 8), .inl 3, .inr (0, 240), .inl 1, .inr (0, 72), .inr (0, 8), .inl 3, .inr (0, 240), .inl 1, .inr (0, 72), .inr (0, 8), .inl 3, .inr (0, 240), .inl 1, .inr (0, 72), .inr (0, 8), .inl 3, .inr (0, 240), .inl 1, .inr (0, 72), .inr (0, 8), .inl 3, .inr (0, 240), .inl 1, .inr (0, 72), .inr (0, 8), .inl 3, .inr (0, 240), .inl 1, .inr (0, 72), .inr (0, 8), .inl 3, .inr (0, 240), .inl 1, .inr (0, 72), .inr (0, 8), .inl 3, .inr (0, 240), .inl 1, .inr (0, 72), .inr (0, 8), .inl 3, .inr (0, 240), .inl 8, .inr (0, 2304), .inl 4, .inr (0, 256), .inl 9, .inr (0, 8), .inr (0, 8), .inl 11, .inr (0, 2173), .inr (0, 1324), .inr (0, 1324), .inr (0, 475), .inr (0, 5700), .inr (0, 144), .inr (1, 400), .inr (0, 5), .inr (0, 400), .inr (0, 2304), .inr (0, 201), .inr (0, 256), .inr (0, 8), .inr (2, 1)]
def zFks : List (List (Option Nat)) := [[some 1, some 2, none, none, none, none], [some 1, some 2, some 3, none, none, none, none, none, none, none, none, none], [some 1, some 2, some 3, some 4, some 5, some 6, none, none, none], [some 1, none, none], [some 1], [some 1, some 2], [some 1, some 6, some 9, some 16], [some 1, none, none, none, none], [some 1, none], [some 1, none, none, none, none], [some 1, some 3, some 22, some 41, none, some 60, none, none, some 121, some 123, some 125, some 127], [none, some 1, some 2, some 3, some 4, some 5, none, none, some 6, some 7, none, none, none, none, none, none, some 8, none, some 9, none, none, none, none, none, some 10, some 11, some 12, some 13]]
def zFk (ci : Nat) : List (Option Nat) := zFks.getD ci []
def zBfs : List (Nat × Nat) := [(8, 1), (10, 4), (11, 6)]
def zTs : List (Nat → String × String × String × Bool) := [TX0, TX1, TX2, TX3, TX4, TX5, TX6, TX7, TX9, TX10, TX11, TX12]
