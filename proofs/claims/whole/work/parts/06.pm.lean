/-! ===== THE PURE MACHINE: heaps of cells by numbers, ints, longs and references apart ===== -/
/-- how many cells there are; ints, longs, references: by cell and place -/
abbrev pm_H : Type := Nat × (Nat → Nat → Int32) × (Nat → Nat → Int64) × (Nat → Nat → Value)
/-- the first cell that the run makes; those ahead of it are constants -/
abbrev pm_K : Nat := 16
def pm_up {α : Type} (f : Nat → Nat → α) (a k : Nat) (x : α) : Nat → Nat → α := fun b => cond (Nat.beq b a) (fun j => if j = k then x else f b j) (f b)
theorem nb_f {a b : Nat} (h : a ≠ b) : Nat.beq a b = false := by
  cases hb : Nat.beq a b with
  | false => rfl
  | true => exact absurd (Nat.eq_of_beq_eq_true hb) h
theorem nb_t (a : Nat) : Nat.beq a a = true := Nat.beq_refl a
theorem pm_up_ne {α : Type} {f : Nat → Nat → α} {a k : Nat} {x : α} {b : Nat} (h : b ≠ a) : pm_up f a k x b = f b := by
  unfold pm_up
  rw [nb_f h]; rfl
theorem pm_up_eq {α : Type} {f : Nat → Nat → α} {a k : Nat} {x : α} : pm_up f a k x a = fun j => if j = k then x else f a j := by
  unfold pm_up
  rw [nb_t]; rfl
/-- instructions that only touch the stack -/
def pm_stk (i : Instr) (st : List Value) : Option (List Value) := match i, st with
  | .iconst n, r => some (.int (Int32.ofInt n) :: r)
  | .bipush n, r => some (.int (Int8.ofInt n).toInt32 :: r)
  | .sipush n, r => some (.int (Int16.ofInt n).toInt32 :: r)
  | .lconst n, r => some (.long (Int64.ofNat (n : Nat)) :: r)
  | .iadd, .int y :: .int x :: r => some (.int (x + y) :: r)
  | .isub, .int y :: .int x :: r => some (.int (x - y) :: r)
  | .imul, .int y :: .int x :: r => some (.int (x * y) :: r)
  | .iand, .int y :: .int x :: r => some (.int (x &&& y) :: r)
  | .ior, .int y :: .int x :: r => some (.int (x ||| y) :: r)
  | .ixor, .int y :: .int x :: r => some (.int (x ^^^ y) :: r)
  | .ishl, .int y :: .int x :: r => some (.int (x <<< (y &&& 31)) :: r)
  | .ishr, .int y :: .int x :: r => some (.int (x >>> (y &&& 31)) :: r)
  | .iushr, .int y :: .int x :: r => some (.int (x.toUInt32 >>> (y.toUInt32 &&& Int32.toUInt32 31)).toInt32 :: r)
  | .ineg, .int x :: r => some (.int (-x) :: r)
  | .ladd, .long y :: .long x :: r => some (.long (x + y) :: r)
  | .lsub, .long y :: .long x :: r => some (.long (x - y) :: r)
  | .lmul, .long y :: .long x :: r => some (.long (x * y) :: r)
  | .land, .long y :: .long x :: r => some (.long (x &&& y) :: r)
  | .lor, .long y :: .long x :: r => some (.long (x ||| y) :: r)
  | .lxor, .long y :: .long x :: r => some (.long (x ^^^ y) :: r)
  | .lneg, .long x :: r => some (.long (-x) :: r)
  | .lshl, .int y :: .long x :: r => some (.long (x <<< (y.toInt64 &&& 63)) :: r)
  | .lshr, .int y :: .long x :: r => some (.long (x >>> (y.toInt64 &&& 63)) :: r)
  | .lushr, .int y :: .long x :: r => some (.long (x.toUInt64 >>> (y.toInt64.toUInt64 &&& Int64.toUInt64 63)).toInt64 :: r)
  | .i2l, .int x :: r => some (.long x.toInt64 :: r)
  | .l2i, .long x :: r => some (.int x.toInt32 :: r)
  | .dup, .int x :: r => some (.int x :: .int x :: r)
  | .dup, .ref x :: r => some (.ref x :: .ref x :: r)
  | .dup2, .int y :: .int x :: r => some (.int y :: .int x :: .int y :: .int x :: r)
  | .dup2, .int y :: .ref x :: r => some (.int y :: .ref x :: .int y :: .ref x :: r)
  | .pop, .int _ :: r => some r
  | _, _ => none
/-- what a load gives -/
def pm_ld (i : Instr) (L : List Value) : Option Value := match i with
  | .iload j => (match L[j]? with | some (.int x) => some (.int x) | _ => none)
  | .iload_n j => (match L[(j : Nat)]? with | some (.int x) => some (.int x) | _ => none)
  | .lload j => (match L[j]? with | some (.long x) => some (.long x) | _ => none)
  | .lload_n j => (match L[(j : Nat)]? with | some (.long x) => some (.long x) | _ => none)
  | .aload j => (match L[j]? with | some (.ref x) => some (.ref x) | _ => none)
  | .aload_n j => (match L[(j : Nat)]? with | some (.ref x) => some (.ref x) | _ => none)
  | _ => none
/-- where a value of one word may be stored: no long is cut -/
def pm_fr (L : List Value) (j : Nat) : Bool := match j with
  | 0 => true
  | j + 1 => (match L[j]? with | some (.long _) => false | some (.double _) => false | _ => true)
def pm_fr2 (L : List Value) (j : Nat) : Bool := pm_fr L j && Nat.blt (j + 1) L.length
/-- a store: the stack behind it, the locals behind it -/
def pm_sto (i : Instr) (st L : List Value) : Option (List Value × List Value) := match i, st with
  | .istore j, .int x :: r => cond (pm_fr L j && Nat.blt j L.length) (some (r, L.set j (.int x))) none
  | .istore_n j, .int x :: r => cond (pm_fr L j && Nat.blt j L.length) (some (r, L.set j (.int x))) none
  | .astore j, .ref x :: r => cond (pm_fr L j && Nat.blt j L.length) (some (r, L.set j (.ref x))) none
  | .astore_n j, .ref x :: r => cond (pm_fr L j && Nat.blt j L.length) (some (r, L.set j (.ref x))) none
  | .lstore j, .long x :: r => cond (pm_fr2 L j) (some (r, (L.set j (.long x)).set (j + 1) .null)) none
  | .lstore_n j, .long x :: r => cond (pm_fr2 L j) (some (r, (L.set j (.long x)).set ((j : Nat) + 1) .null)) none
  | .iinc j n, r => (match L[j]? with | some (.int x) => cond (pm_fr L j) (some (r, L.set j (.int (x + Int32.ofInt n)))) none | _ => none)
  | _, _ => none
/-- a branch: when it goes, the stack behind it -/
def pm_br (i : Instr) (st : List Value) : Option (Prop × List Value) := match i, st with
  | .ifCond .eq _, .int x :: r => some (x = 0, r)
  | .ifCond .ne _, .int x :: r => some (¬ x = 0, r)
  | .ifCond .lt _, .int x :: r => some (x < 0, r)
  | .ifCond .ge _, .int x :: r => some (0 ≤ x, r)
  | .ifCond .gt _, .int x :: r => some (0 < x, r)
  | .ifCond .le _, .int x :: r => some (x ≤ 0, r)
  | .if_icmp .eq _, .int y :: .int x :: r => some (x = y, r)
  | .if_icmp .ne _, .int y :: .int x :: r => some (¬ x = y, r)
  | .if_icmp .lt _, .int y :: .int x :: r => some (x < y, r)
  | .if_icmp .ge _, .int y :: .int x :: r => some (y ≤ x, r)
  | .if_icmp .gt _, .int y :: .int x :: r => some (y < x, r)
  | .if_icmp .le _, .int y :: .int x :: r => some (x ≤ y, r)
  | _, _ => none
/-- what a field gives, by how it is kept -/
def pm_rd (t : Nat) (h : pm_H) (a k : Nat) : Value := match t with
  | 0 => .int (h.2.1 a k)
  | 3 => .int (h.2.1 a k)
  | 1 => .long (h.2.2.1 a k)
  | _ => h.2.2.2 a k
/-- an int into a cell -/
def pm_wI (h : pm_H) (a k : Nat) (x : Int32) : pm_H := (h.1, pm_up h.2.1 a k x, h.2.2.1, h.2.2.2)
def pm_wJ (h : pm_H) (a k : Nat) (x : Int64) : pm_H := (h.1, h.2.1, pm_up h.2.2.1 a k x, h.2.2.2)
def pm_wR (h : pm_H) (a k : Nat) (x : Value) : pm_H := (h.1, h.2.1, h.2.2.1, pm_up h.2.2.2 a k x)
def pm_b01 (t : Nat) (x : Int32) : Prop := t = 3 → x = 0 ∨ x = 1
/-- the locals at a method's entry -/
def pm_sl1 (v : Value) : List Value := match v with
  | .long x => [.long x, .null]
  | .double x => [.double x, .null]
  | v => [v]
def pm_ent (n : Nat) (As : List Value) : List Value := let l := As.flatMap pm_sl1; l ++ List.replicate (n - l.length) .null
def pm_cats (st : List Value) : Nat := (st.map fun v => v.category).sum
/-- constant arrays -/
def pm_con (a j : Nat) : Int32 := cond (Nat.beq a 1) (([0, 8, 2, 10, 12, 4, 14, 6, 3, 11, 1, 9, 15, 7, 13, 5] : List Int32).getD j 0) (([4, 4, 4, 4, 4, 4, 4, 4, 2, 2, 4, 2, 5, 4, 4, 4, 4, 4, 4, 4, 4, 4, 5, 4, 4, 4] : List Int32).getD j 0)
/-- constant texts, as their chars -/
def pm_txt (a : Nat) : List Int32 := match a with
  | 3 => [114, 111, 108, 108]
  | 4 => [99, 117, 116]
  | 5 => [115, 104, 101, 101, 116]
  | 6 => [102, 111, 108, 100]
  | 7 => [98, 111, 120]
  | 8 => [108, 105, 110, 101]
  | 9 => [120]
  | 10 => [121]
  | _ => []
abbrev pm_J : Type := Nat → Nat → pm_M → Nat → List Value → List Value → pm_H → (Option Value → pm_H → Prop) → Prop
/-- the default of a new cell's places, by kind: all zero or null -/
def pm_z (h : pm_H) : pm_H := (h.1 + 1, (fun a => cond (Nat.beq a h.1) (fun _ => 0) (h.2.1 a)), (fun a => cond (Nat.beq a h.1) (fun _ => 0) (h.2.2.1 a)), (fun a => cond (Nat.beq a h.1) (fun _ => .null) (h.2.2.2 a)))
def pm_c0 (P : pm_J) : Prop := ∀ k N Y pc L st h Q Q', (∀ r h, Q r h → Q' r h) → P k N Y pc L st h Q → P k N Y pc L st h Q'
def pm_c1 (P : pm_J) : Prop := ∀ k N Y pc L st h Q i len x st', pm_ins Y pc = some (i, len, x) → pm_stk i st = some st' → P k N Y (pc + len) L st' h Q → P k N Y pc L st h Q
def pm_c2 (P : pm_J) : Prop := ∀ k N Y pc L st h Q i len x v, pm_ins Y pc = some (i, len, x) → pm_ld i L = some v → P k N Y (pc + len) L (v :: st) h Q → P k N Y pc L st h Q
def pm_c3 (P : pm_J) : Prop := ∀ k N Y pc L st h Q i len x st' L', pm_ins Y pc = some (i, len, x) → pm_sto i st L = some (st', L') → P k N Y (pc + len) L' st' h Q → P k N Y pc L st h Q
def pm_c4 (P : pm_J) : Prop := ∀ k N Y pc L st h Q i len t x c st', pm_ins Y pc = some (i, len, t, x) → pm_br i st = some (c, st') → (c → P k N Y t L st' h Q) → (¬ c → P k N Y (pc + len) L st' h Q) → P k N Y pc L st h Q
def pm_c5 (P : pm_J) : Prop := ∀ k N Y pc L st h Q o len t x, pm_ins Y pc = some (.goto o, len, t, x) → P k N Y t L st h Q → P k N Y pc L st h Q
def pm_c6 (P : pm_J) : Prop := ∀ k N Y pc L st h Q d lo hi offs len x (v : Int32) (tgt : Nat) (off : Int), pm_ins Y pc = some (.tableswitch d lo hi offs, len, x) → ¬ v.toInt < lo → ¬ hi < v.toInt → offs[(v.toInt - lo).toNat]? = some off → (pc : Int) + off = (tgt : Int) → P k N Y tgt L st h Q → P k N Y pc L (.int v :: st) h Q
def pm_c7 (P : pm_J) : Prop := ∀ k N Y pc L st h Q d lo hi offs len x (v : Int32) (tgt : Nat), pm_ins Y pc = some (.tableswitch d lo hi offs, len, x) → (v.toInt < lo ∨ hi < v.toInt) → (pc : Int) + d = (tgt : Int) → P k N Y tgt L st h Q → P k N Y pc L (.int v :: st) h Q
def pm_c8 (P : pm_J) : Prop := ∀ k N Y pc L st h Q len x (v w : Int32), pm_ins Y pc = some (.idiv, len, x) → ¬ w = 0 → P k N Y (pc + len) L (.int (v / w) :: st) h Q → P k N Y pc L (.int w :: .int v :: st) h Q
def pm_c9 (P : pm_J) : Prop := ∀ k N Y pc L st h Q len x (v w : Int32), pm_ins Y pc = some (.irem, len, x) → ¬ w = 0 → P k N Y (pc + len) L (.int (v - v / w * w) :: st) h Q → P k N Y pc L (.int w :: .int v :: st) h Q
def pm_c10 (P : pm_J) : Prop := ∀ k N Y pc L st h Q len x (v w : Int64), pm_ins Y pc = some (.ldiv, len, x) → ¬ w = 0 → P k N Y (pc + len) L (.long (v / w) :: st) h Q → P k N Y pc L (.long w :: .long v :: st) h Q
def pm_c11 (P : pm_J) : Prop := ∀ k N Y pc L st h Q len x (v w : Int64), pm_ins Y pc = some (.lcmp, len, x) → P k N Y (pc + len) L (.int (lg_cmp v w) :: st) h Q → P k N Y pc L (.long w :: .long v :: st) h Q
/-- getfield -/
def pm_c12 (P : pm_J) : Prop := ∀ k N Y pc L st h Q idx len ci f t a, pm_ins Y pc = some (.getfield idx, len, ci, f, t) → (pm_sh a).1 = ci → pm_K ≤ a → a < h.1 → P k N Y (pc + len) L (pm_rd t h a f :: st) h Q → P k N Y pc L (.ref a :: st) h Q
/-- putfield: int or boolean, long, reference -/
def pm_c13 (P : pm_J) : Prop := ∀ k N Y pc L st h Q idx len ci f t a (x : Int32), pm_ins Y pc = some (.putfield idx, len, ci, f, t) → (t = 0 ∨ t = 3) → (pm_cT ci f).2.2.2 = false → pm_b01 t x → (pm_sh a).1 = ci → pm_K ≤ a → a < h.1 → P k N Y (pc + len) L st (pm_wI h a f x) Q → P k N Y pc L (.int x :: .ref a :: st) h Q
def pm_c14 (P : pm_J) : Prop := ∀ k N Y pc L st h Q idx len ci f a (x : Int64), pm_ins Y pc = some (.putfield idx, len, ci, f, 1) → (pm_cT ci f).2.2.2 = false → (pm_sh a).1 = ci → pm_K ≤ a → a < h.1 → P k N Y (pc + len) L st (pm_wJ h a f x) Q → P k N Y pc L (.long x :: .ref a :: st) h Q
def pm_c15 (P : pm_J) : Prop := ∀ k N Y pc L st h Q idx len ci f a b, pm_ins Y pc = some (.putfield idx, len, ci, f, 2) → (pm_sh a).1 = ci → pm_K ≤ a → a < h.1 → ((pm_cT ci f).2.2.2 = true → pm_kd Y = 2 ∧ pm_oc Y = ci) → P k N Y (pc + len) L st (pm_wR h a f (.ref b)) Q → P k N Y pc L (.ref b :: .ref a :: st) h Q
/-- arrays: int, boolean, long, references -/
def pm_c16 (P : pm_J) : Prop := ∀ k N Y pc L st h Q len x a (j : Int32), pm_ins Y pc = some (.iaload, len, x) → (pm_sh a).1 = 100 → pm_K ≤ a → a < h.1 → vp_in j (pm_sh a).2 → P k N Y (pc + len) L (.int (h.2.1 a j.toNatClampNeg) :: st) h Q → P k N Y pc L (.int j :: .ref a :: st) h Q
def pm_c17 (P : pm_J) : Prop := ∀ k N Y pc L st h Q len x a (j v : Int32), pm_ins Y pc = some (.iastore, len, x) → (pm_sh a).1 = 100 → pm_K ≤ a → a < h.1 → vp_in j (pm_sh a).2 → P k N Y (pc + len) L st (pm_wI h a j.toNatClampNeg v) Q → P k N Y pc L (.int v :: .int j :: .ref a :: st) h Q
def pm_c18 (P : pm_J) : Prop := ∀ k N Y pc L st h Q len x a (j : Int32), pm_ins Y pc = some (.baload, len, x) → (pm_sh a).1 = 101 → pm_K ≤ a → a < h.1 → vp_in j (pm_sh a).2 → P k N Y (pc + len) L (.int (h.2.1 a j.toNatClampNeg) :: st) h Q → P k N Y pc L (.int j :: .ref a :: st) h Q
def pm_c19 (P : pm_J) : Prop := ∀ k N Y pc L st h Q len x a (j v : Int32), pm_ins Y pc = some (.bastore, len, x) → (pm_sh a).1 = 101 → pm_K ≤ a → a < h.1 → vp_in j (pm_sh a).2 → (v = 0 ∨ v = 1) → P k N Y (pc + len) L st (pm_wI h a j.toNatClampNeg v) Q → P k N Y pc L (.int v :: .int j :: .ref a :: st) h Q
def pm_c20 (P : pm_J) : Prop := ∀ k N Y pc L st h Q len x a (j : Int32), pm_ins Y pc = some (.laload, len, x) → (pm_sh a).1 = 102 → pm_K ≤ a → a < h.1 → vp_in j (pm_sh a).2 → P k N Y (pc + len) L (.long (h.2.2.1 a j.toNatClampNeg) :: st) h Q → P k N Y pc L (.int j :: .ref a :: st) h Q
def pm_c21 (P : pm_J) : Prop := ∀ k N Y pc L st h Q len x a (j : Int32) (v : Int64), pm_ins Y pc = some (.lastore, len, x) → (pm_sh a).1 = 102 → pm_K ≤ a → a < h.1 → vp_in j (pm_sh a).2 → P k N Y (pc + len) L st (pm_wJ h a j.toNatClampNeg v) Q → P k N Y pc L (.long v :: .int j :: .ref a :: st) h Q
def pm_c22 (P : pm_J) : Prop := ∀ k N Y pc L st h Q len x a (j : Int32), pm_ins Y pc = some (.aaload, len, x) → (pm_sh a).1 = 103 → pm_K ≤ a → a < h.1 → vp_in j (pm_sh a).2 → P k N Y (pc + len) L (h.2.2.2 a j.toNatClampNeg :: st) h Q → P k N Y pc L (.int j :: .ref a :: st) h Q
def pm_c23 (P : pm_J) : Prop := ∀ k N Y pc L st h Q len x a b (j : Int32), pm_ins Y pc = some (.aastore, len, x) → (pm_sh a).1 = 103 → pm_K ≤ a → a < h.1 → vp_in j (pm_sh a).2 → (pm_sh b).1 = 8 → pm_K ≤ b → b < h.1 → P k N Y (pc + len) L st (pm_wR h a j.toNatClampNeg (.ref b)) Q → P k N Y pc L (.ref b :: .int j :: .ref a :: st) h Q
def pm_c24 (P : pm_J) : Prop := ∀ k N Y pc L st h Q len x a, pm_ins Y pc = some (.arraylength, len, x) → (100 ≤ (pm_sh a).1 ∧ (pm_sh a).1 ≤ 103) → pm_K ≤ a → a < h.1 → P k N Y (pc + len) L (.int (Int32.ofNat (pm_sh a).2) :: st) h Q → P k N Y pc L (.ref a :: st) h Q
/-- the script -/
def pm_c25 (P : pm_J) : Prop := ∀ k N Y pc L st h Q len x, pm_ins Y pc = some (.arraylength, len, x) → P k N Y (pc + len) L (.int (h.2.2.1 0 0).toInt32 :: st) h Q → P k N Y pc L (.ref 0 :: st) h Q
def pm_c26 (P : pm_J) : Prop := ∀ k N Y pc L st h Q len x (j : Int32), pm_ins Y pc = some (.iaload, len, x) → vp_in j (h.2.2.1 0 0).toInt.toNat → P k N Y (pc + len) L (.int (h.2.1 0 j.toNatClampNeg) :: st) h Q → P k N Y pc L (.int j :: .ref 0 :: st) h Q
/-- constants -/
def pm_c27 (P : pm_J) : Prop := ∀ k N Y pc L st h Q len x a (j : Int32), pm_ins Y pc = some (.iaload, len, x) → (a = 1 ∨ a = 2) → vp_in j (pm_sh a).2 → P k N Y (pc + len) L (.int (pm_con a j.toNatClampNeg) :: st) h Q → P k N Y pc L (.int j :: .ref a :: st) h Q
def pm_c28 (P : pm_J) : Prop := ∀ k N Y pc L st h Q idx len t x, pm_ins Y pc = some (.getstatic idx, len, t, x) → P k N Y (pc + len) L (.ref t :: st) h Q → P k N Y pc L st h Q
def pm_c29 (P : pm_J) : Prop := ∀ k N Y pc L st h Q i idx len v x, pm_ins Y pc = some (i, len, 0, v, x) → (i = .ldc idx ∨ i = .ldc_w idx) → P k N Y (pc + len) L (.int (Int32.ofNat v) :: st) h Q → P k N Y pc L st h Q
def pm_c30 (P : pm_J) : Prop := ∀ k N Y pc L st h Q idx len v x t, pm_ins Y pc = some (.ldc2_w idx, len, t, v, x) → P k N Y (pc + len) L (.long (Int64.ofNat v) :: st) h Q → P k N Y pc L st h Q
def pm_c31 (P : pm_J) : Prop := ∀ k N Y pc L st h Q i idx len v x, pm_ins Y pc = some (i, len, 1, v, x) → (i = .ldc idx ∨ i = .ldc_w idx) → P k N Y (pc + len) L (.ref v :: st) h Q → P k N Y pc L st h Q
def pm_c32 (P : pm_J) : Prop := ∀ k N Y pc L st h Q idx len x a, pm_ins Y pc = some (.invokevirtual idx, len, 1000, x) → 3 ≤ a → a < 11 → pm_cats st ≤ 8 → 4 ≤ k → h.1 ≤ N → P k N Y (pc + len) L (.int (Int32.ofNat (pm_txt a).length) :: st) h Q → P k N Y pc L (.ref a :: st) h Q
def pm_c33 (P : pm_J) : Prop := ∀ k N Y pc L st h Q idx len x a (j : Int32), pm_ins Y pc = some (.invokevirtual idx, len, 1001, x) → 3 ≤ a → a < 11 → vp_in j (pm_txt a).length → pm_cats st ≤ 8 → 4 ≤ k → h.1 ≤ N → P k N Y (pc + len) L (.int ((pm_txt a).getD j.toNatClampNeg 0) :: st) h Q → P k N Y pc L (.int j :: .ref a :: st) h Q
/-- new objects and arrays -/
def pm_c34 (P : pm_J) : Prop := ∀ k N Y pc L st h Q idx len ci x, pm_ins Y pc = some (.new idx, len, ci, x) → pm_sh h.1 = (ci, pm_cN ci) → pm_K ≤ h.1 → h.1 + 1 ≤ N → P k N Y (pc + len) L (.ref h.1 :: st) (pm_z h) Q → P k N Y pc L st h Q
def pm_c35 (P : pm_J) : Prop := ∀ k N Y pc L st h Q len x at' (v : Int32), pm_ins Y pc = some (.newarray at', len, x) → ((at' = .int ∧ (pm_sh h.1).1 = 100) ∨ (at' = .boolean ∧ (pm_sh h.1).1 = 101) ∨ (at' = .long ∧ (pm_sh h.1).1 = 102)) → v = Int32.ofNat (pm_sh h.1).2 → (pm_sh h.1).2 ≤ 60000 → pm_K ≤ h.1 → h.1 + 1 ≤ N → P k N Y (pc + len) L (.ref h.1 :: st) (pm_z h) Q → P k N Y pc L (.int v :: st) h Q
def pm_c36 (P : pm_J) : Prop := ∀ k N Y pc L st h Q idx len x (v : Int32), pm_ins Y pc = some (.anewarray idx, len, x) → (pm_oc Y = 9 ∧ idx = 36) → (pm_sh h.1).1 = 103 → v = Int32.ofNat (pm_sh h.1).2 → (pm_sh h.1).2 ≤ 60000 → pm_K ≤ h.1 → h.1 + 1 ≤ N → P k N Y (pc + len) L (.ref h.1 :: st) (pm_z h) Q → P k N Y pc L (.int v :: st) h Q
/-- calls -/
def pm_c37 (P : pm_J) : Prop := ∀ k N N' Y pc L rest h Q idx len z x Y' As b, pm_ins Y pc = some (.invokevirtual idx, len, z, x) → pm_mz z = some Y' → pm_kd Y' = 0 → As.length = pm_np Y' → pm_cats rest ≤ 8 → (List.flatMap pm_sl1 (.ref b :: As)).length ≤ pm_ml Y' → h.1 ≤ N' → N' ≤ N → (pm_sh b).1 = pm_oc Y' → pm_oc Y' < 13 → pm_K ≤ b → b < h.1 → P k N' Y' 0 (pm_ent (pm_ml Y') (.ref b :: As)) [] h (fun r h' => h'.1 = N' ∧ P (k + 1) N Y (pc + 3) L (r.toList ++ rest) h' Q) → P (k + 1) N Y pc L (As.reverse ++ .ref b :: rest) h Q
def pm_c38 (P : pm_J) : Prop := ∀ k N N' Y pc L rest h Q idx len z x Y' As, pm_ins Y pc = some (.invokestatic idx, len, z, x) → pm_mz z = some Y' → pm_kd Y' = 1 → As.length = pm_np Y' → pm_cats rest ≤ 8 → (List.flatMap pm_sl1 As).length ≤ pm_ml Y' → h.1 ≤ N' → N' ≤ N → P k N' Y' 0 (pm_ent (pm_ml Y') As) [] h (fun r h' => h'.1 = N' ∧ P (k + 1) N Y (pc + 3) L (r.toList ++ rest) h' Q) → P (k + 1) N Y pc L (As.reverse ++ rest) h Q
def pm_c39 (P : pm_J) : Prop := ∀ k N N' Y pc L rest h Q idx len z x Y' As b, pm_ins Y pc = some (.invokespecial idx, len, z, x) → pm_mz z = some Y' → pm_kd Y' = 2 → As.length = pm_np Y' → pm_cats rest ≤ 8 → (List.flatMap pm_sl1 (.ref b :: As)).length ≤ pm_ml Y' → h.1 ≤ N' → N' ≤ N → P k N' Y' 0 (pm_ent (pm_ml Y') (.ref b :: As)) [] h (fun r h' => h'.1 = N' ∧ P (k + 1) N Y (pc + 3) L (r.toList ++ rest) h' Q) → P (k + 1) N Y pc L (As.reverse ++ .ref b :: rest) h Q
def pm_c40 (P : pm_J) : Prop := ∀ k N Y pc L rest h Q idx len x b, pm_ins Y pc = some (.invokespecial idx, len, 1003, x) → pm_cats rest ≤ 8 → 1 ≤ k → P k N Y (pc + 3) L rest h Q → P k N Y pc L (.ref b :: rest) h Q
/-- System.arraycopy of one int array to another -/
def pm_cpy (h : pm_H) (a sp b dp n : Nat) : pm_H := (h.1, (fun c => cond (Nat.beq c b) (va_cpy (h.2.1 a) (h.2.1 b) sp dp n) (h.2.1 c)), h.2.2)
def pm_c41 (P : pm_J) : Prop := ∀ k N Y pc L rest h Q idx len x a b (sp dp n : Nat), pm_ins Y pc = some (.invokestatic idx, len, 1002, x) → (pm_sh a).1 = 100 → (pm_sh b).1 = 100 → pm_K ≤ a → a < h.1 → pm_K ≤ b → b < h.1 → a ≠ b → sp + n ≤ (pm_sh a).2 → dp + n ≤ (pm_sh b).2 → (pm_sh a).2 ≤ 60000 → (pm_sh b).2 ≤ 60000 → pm_cats rest ≤ 8 → 2 ≤ k → P k N Y (pc + 3) L rest (pm_cpy h a sp b dp n) Q → P k N Y pc L (.int (Int32.ofNat n) :: .int (Int32.ofNat dp) :: .ref b :: .int (Int32.ofNat sp) :: .ref a :: rest) h Q
/-- ends -/
def pm_c42 (P : pm_J) : Prop := ∀ k N Y pc L h Q len x (v : Int32), pm_ins Y pc = some (.ireturn, len, x) → (pm_rt Y = some .int ∨ (pm_rt Y = some .boolean ∧ (v = 0 ∨ v = 1))) → Q (some (.int v)) h → P k N Y pc L [.int v] h Q
def pm_c43 (P : pm_J) : Prop := ∀ k N Y pc L h Q len x (v : Int64), pm_ins Y pc = some (.lreturn, len, x) → pm_rt Y = some .long → Q (some (.long v)) h → P k N Y pc L [.long v] h Q
def pm_c44 (P : pm_J) : Prop := ∀ k N Y pc L h Q len x, pm_ins Y pc = some (.return_, len, x) → pm_rt Y = none → Q none h → P k N Y pc L [] h Q
def pm_CA (P : pm_J) : Prop := pm_c0 P ∧ pm_c1 P ∧ pm_c2 P ∧ pm_c3 P ∧ pm_c4 P ∧ pm_c5 P ∧ pm_c6 P ∧ pm_c7 P ∧ pm_c8 P ∧ pm_c9 P ∧ pm_c10 P ∧ pm_c11 P
def pm_CB (P : pm_J) : Prop := pm_c12 P ∧ pm_c13 P ∧ pm_c14 P ∧ pm_c15 P ∧ pm_c16 P ∧ pm_c17 P ∧ pm_c18 P ∧ pm_c19 P ∧ pm_c20 P ∧ pm_c21 P ∧ pm_c22 P ∧ pm_c23 P ∧ pm_c24 P
def pm_CC (P : pm_J) : Prop := pm_c25 P ∧ pm_c26 P ∧ pm_c27 P ∧ pm_c28 P ∧ pm_c29 P ∧ pm_c30 P ∧ pm_c31 P ∧ pm_c32 P ∧ pm_c33 P ∧ pm_c34 P ∧ pm_c35 P ∧ pm_c36 P
def pm_CD (P : pm_J) : Prop := pm_c37 P ∧ pm_c38 P ∧ pm_c39 P ∧ pm_c40 P ∧ pm_c41 P ∧ pm_c42 P ∧ pm_c43 P ∧ pm_c44 P
def pm_Cl (P : pm_J) : Prop := pm_CA P ∧ pm_CB P ∧ pm_CC P ∧ pm_CD P
/-- the pure machine, from this place on, comes to an end with Q -/
def Px : pm_J := fun k N Y pc L st h Q => ∀ P : pm_J, pm_Cl P → P k N Y pc L st h Q
