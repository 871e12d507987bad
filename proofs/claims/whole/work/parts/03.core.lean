/-! The abstract machine: a reference is (kind, number); memory is two tables (ints, longs) by kind, number, slot; the shape of the heap is fixed. -/
abbrev Vl : Type := Value × Nat
abbrev Mm : Type := (Nat → Nat → Nat → Int32) × (Nat → Nat → Nat → Int64)
abbrev vi (x : Int32) : Vl := (.int x, 0)
abbrev vl (x : Int64) : Vl := (.long x, 0)
abbrev vr (k i : Nat) : Vl := (.ref k, i)
abbrev vn : Vl := (.null, 0)
abbrev un : Vl := (.retAddr 0, 0)
/-- launch, number of each object's type, slot of each field, number of each array's type, addresses, first new address, the script's length, the script -/
abbrev Ge : Type := Launch × (Nat → ClassId) × (Nat → Nat → Nat) × (Nat → ClassId) × (Nat → Nat → Nat) × Nat × Nat × (Nat → Int32)
abbrev gl (G : Ge) : Launch := G.1
abbrev gC (G : Ge) : Nat → ClassId := G.2.1
abbrev gI (G : Ge) : Nat → Nat → Nat := G.2.2.1
abbrev gA (G : Ge) : Nat → ClassId := G.2.2.2.1
abbrev gad (G : Ge) : Nat → Nat → Nat := G.2.2.2.2.1
abbrev gb (G : Ge) : Nat := G.2.2.2.2.2.1
abbrev gL (G : Ge) : Nat := G.2.2.2.2.2.2.1
abbrev gxs (G : Ge) : Nat → Int32 := G.2.2.2.2.2.2.2
/-- by kind: what it is (0 an object, 1 ints, 2 longs, 3 bytes, 4 booleans, 5 references, 6 a table that nobody writes, 7 the script), number of its type, length, how many -/
def kTab : List (Nat × Nat × Nat × Nat) := [
  (0, 0, 6, 25), (0, 1, 3, 1), (0, 2, 3, 1), (0, 3, 2, 6), (0, 4, 9, 5), (0, 5, 2, 1), (0, 6, 12, 1), (0, 7, 37, 1), (0, 3, 2, 4),
  (5, 4, 6, 1), (5, 4, 4, 1), (5, 5, 3, 1), (5, 6, 5, 5), (5, 7, 9, 1), (5, 7, 5, 1), (5, 7, 32, 1),
  (1, 0, 47, 46), (1, 0, 6, 1), (1, 0, 40, 6), (1, 0, 60, 4), (1, 0, 8, 5), (1, 0, 60, 5), (1, 0, 60, 5), (1, 0, 60, 5),
  (2, 1, 73, 1), (2, 1, 73, 1),
  (1, 0, 6, 1), (1, 0, 6, 1), (1, 0, 240, 1), (1, 0, 40, 1), (1, 0, 4, 1), (3, 2, 240, 1), (1, 0, 5, 1), (1, 0, 5, 1), (1, 0, 8, 1), (1, 0, 15, 1), (1, 0, 8, 1), (1, 0, 16, 1), (1, 0, 960, 1),
  (4, 3, 3, 1), (1, 0, 3, 1), (1, 0, 24, 1), (1, 0, 48, 1), (1, 0, 2880, 1), (1, 0, 909, 1), (1, 0, 505, 1), (1, 0, 8, 1), (1, 0, 3006, 1), (1, 0, 5, 1), (1, 0, 276, 1),
  (2, 1, 101, 1), (2, 1, 101, 1),
  (6, 0, 6, 1), (6, 0, 6, 1), (6, 0, 6, 1), (6, 0, 6, 1), (6, 0, 6, 1), (7, 0, 0, 1)]
def kt (k : Nat) : Nat × Nat × Nat × Nat := kTab.getD k (9, 0, 0, 0)
abbrev ktag (k : Nat) : Nat := (kt k).1
abbrev kcl (k : Nat) : Nat := (kt k).2.1
abbrev klen (k : Nat) : Nat := (kt k).2.2.1
abbrev knum (k : Nat) : Nat := (kt k).2.2.2
/-- by type and field: 0 an int, 1 a long, 2 a reference that stays, 3 the reader's text -/
def fcT : List (List Nat) := [[0, 0, 0, 0, 0, 0], [2, 2, 2], [2, 3, 0], [2, 0], [2, 2, 2, 2, 2, 0, 0, 0, 0], [2, 2], [2, 2, 2, 2, 2, 2, 2, 2, 0, 0, 1, 1],
  [0, 2, 0, 1, 1, 2, 2, 2, 2, 2, 0, 0, 2, 2, 2, 0, 0, 0, 2, 2, 2, 0, 2, 2, 2, 2, 2, 2, 2, 2, 2, 2, 2, 2, 2, 2, 1]]
def fc (c f : Nat) : Nat := (fcT.getD c []).getD f 9
/-- which kind a field of the reference's object holds -/
def mkT : List Nat := [0, 26, 0, 0, 0, 27, 28, 29, 30, 31, 0, 0, 32, 33, 34, 0, 0, 0, 35, 36, 37, 0, 38, 39, 40, 41, 42, 43, 44, 45, 46, 47, 48, 49, 50, 51, 0]
/-- where a reference that stays leads -/
def rf (k i s : Nat) : Vl := match k with
  | 1 => match s with
    | 0 => (.ref 13, 0)
    | 1 => (.ref 14, 0)
    | _ => (.ref 15, 0)
  | 2 => (.ref 4, 4)
  | 3 => (.ref 18, i)
  | 4 => match s with
    | 0 => (.ref 20, i)
    | 1 => (.ref 12, i)
    | 2 => (.ref 21, i)
    | 3 => (.ref 22, i)
    | _ => (.ref 23, i)
  | 5 => match s with
    | 0 => (.ref 24, 0)
    | _ => (.ref 25, 0)
  | 6 => match s with
    | 0 => (.ref 9, 0)
    | 1 => (.ref 10, 0)
    | 2 => (.ref 4, 0)
    | 3 => (.ref 11, 0)
    | 4 => (.ref 2, 0)
    | 5 => (.ref 1, 0)
    | 6 => (.ref 5, 0)
    | _ => (.ref 17, 0)
  | 7 => (.ref (mkT.getD s 0), 0)
  | 8 => (.ref 19, i)
  | 9 => (.ref 3, s)
  | 10 => (.ref 8, s)
  | 11 => (.ref 4, 1 + s)
  | 12 => (.ref 0, 5 * i + s)
  | 13 => (.ref 16, s)
  | 14 => (.ref 16, 9 + s)
  | 15 => (.ref 16, 14 + s)
  | _ => (.null, 0)
def romT : List (List Int32) := [[104, 115, 112, 109, 121, 99], [0, 0, 0, 0, 3, 2], [0, 2, 0, 0, 0, -1], [1, 1, 2, 1, 0, 2], [1, 1, 2, 6, 24, 120]]
def rom (k j : Nat) : Int32 := (romT.getD (k - 52) []).getD j 0
def romN : List String := ["LETTER", "ALSO", "WARMER", "TIMES", "FACTORIAL"]
def mv (G : Ge) (v : Vl) : Value := match v.1 with
  | .ref k => .ref (gad G k v.2)
  | w => w
def vokB (v : Vl) : Bool := match v.1 with
  | .ref k => Nat.blt v.2 (knum k)
  | _ => true
def vok (v : Vl) : Prop := vokB v = true
def vld (vs : List Vl) : Prop := ∀ v ∈ vs, vok v
/-- what a slot holds -/
def sv (G : Ge) (μ : Mm) (k i s : Nat) : Value := match ktag k with
  | 0 => match fc (kcl k) s with
    | 0 => .int (μ.1 k i s)
    | 1 => .long (μ.2 k i s)
    | 2 => mv G (rf k i s)
    | _ => if μ.1 k i s = 0 then .null else .ref (gad G 8 ((μ.1 k i s).toNatClampNeg - 1))
  | 2 => .long (μ.2 k i s)
  | 5 => mv G (rf k i s)
  | _ => .int (μ.1 k i s)
def cellAt (G : Ge) (μ : Mm) (k i : Nat) (H : Heap) : Prop := match ktag k with
  | 0 => t_OB (gad G k i) (gC G (kcl k)) (klen k) (gI G (kcl k)) H (fun f => sv G μ k i f)
  | _ => H[gad G k i]? = some (arrV (gA G (kcl k)) (klen k) (fun j => sv G μ k i j))
def Hd (G : Ge) (μ : Mm) (H : Heap) : Prop := (∀ k i, k < 52 → i < knum k → cellAt G μ k i H) ∧ (μ.1 2 0 1).toInt ≤ 4
def Aw (G : Ge) : Nat → Prop := fun q => gb G ≤ q
def aty : Nat → FieldType := fun t => match t with
  | 0 => .int
  | 1 => .long
  | 2 => .byte
  | 3 => .boolean
  | 4 => .object "ColdShares$Row"
  | 5 => .object "ColdShares$Street"
  | 6 => .object "ColdShares$House"
  | _ => .array .int
/-- the words that pass over to a callee by themselves, and those across a nest -/
def lw_g : List Cond := lw_tbl.filter goodWord
theorem lw_gm {w : Cond} (h : w ∈ lw_g) : w ∈ lw_tbl := (List.mem_filter.mp h).1
def isNest : Cond → Bool
  | .methodLinkNest .. => true
  | .fieldLinkNest .. => true
  | _ => false
theorem nest_warm {s U : State} (hW : s.WarmedH U.vm) : ∀ w : Cond, isNest w = true → va_Nw w s → va_Nw w U := by
  intro w h hz
  cases w <;> first | exact va_Nw.warmM hW hz | exact va_Nw.warmF hW hz | cases h
theorem nest_same {s U : State} (hv : s.vm = U.vm) : ∀ w : Cond, isNest w = true → va_Nw w s → va_Nw w U := by
  intro w h hz
  cases w <;> first | exact va_Nw.same rfl hv hz | cases h
/-- what the tables and the old cells say, at a state -/
def Kn (G : Ge) (U : State) : Prop := va_K (gC G, gI G) vwCl [] U ∧ (∀ t, t < 8 → ArrOfT U (gA G t) (aty t)) ∧
  (∀ k i k' i', k < 52 → i < knum k → k' < 52 → i' < knum k' → gad G k i = gad G k' i' → k = k' ∧ i = i') ∧ (∀ k i, k < 52 → i < knum k → Aw G (gad G k i)) ∧
  (∀ r, r < 5 → va_Z "ColdShares" (romN.getD r "") "[I" (.ref (gad G (52 + r) 0)) (Aw G) U U.heap ∧ va_T .int (gad G (52 + r) 0) 6 (fun j => .int (rom (52 + r) j)) (Aw G) U U.heap) ∧
  va_T .int (gad G 57 0) (gL G) (fun j => .int (gxs G j)) (Aw G) U U.heap ∧ gL G ≤ 3072 ∧ ∀ w ∈ lw_tbl, isNest w = true → va_Nw w U
theorem Kn_moved {G : Ge} {u U : State} (hvm : u.vm.Alike U.vm) (hnest : ∀ w : Cond, isNest w = true → va_Nw w u → va_Nw w U) (hq : ∀ a : Nat, a < u.heap.size → ¬ Aw G a → U.heap[a]? = u.heap[a]?) (h : Kn G u) : Kn G U := by
  obtain ⟨h1, h2, h3, h4, h5, h6, h7, h8⟩ := h
  exact ⟨h1.moved hvm, fun t ht => arrOfT_moved hvm (h2 t ht), h3, h4, fun r hr => ⟨((h5 r hr).1.moved hvm).kept hq, ((h5 r hr).2.moved hvm).kept hq⟩, (h6.moved hvm).kept hq, h7, fun w hw hn => hnest w hn (h8 w hw hn)⟩
/-- a method: its name, code, locals, answer, room, parameters, number of its type -/
abbrev MS : Type := MethodName × ByteArray × Nat × Option FieldType × Room × Nat × Nat
abbrev my (M : MS) : MethodName := M.1
abbrev mc (M : MS) : ByteArray := M.2.1
abbrev mL (M : MS) : Nat := M.2.2.1
abbrev mr (M : MS) : Option FieldType := M.2.2.2.1
abbrev mR (M : MS) : Room := M.2.2.2.2.1
abbrev mN (M : MS) : Nat := M.2.2.2.2.2.1
abbrev mK (M : MS) : Nat := M.2.2.2.2.2.2
def mws (M : MS) : List Cond := Cond.code (my M) (mc M) (mL M) (mr M) :: lw_g
abbrev Ph : Type := Option Value → Mm → Prop
def RI (K : Int32 → Mm → Prop) : Ph := fun r μ => match r with
  | some (.int v) => K v μ
  | _ => False
def RL (K : Int64 → Mm → Prop) : Ph := fun r μ => match r with
  | some (.long v) => K v μ
  | _ => False
def RV (K : Mm → Prop) : Ph := fun r μ => match r with
  | none => K μ
  | _ => False
def Pq (G : Ge) (as : List Vl) (μ : Mm) : Array Value → State → Prop := fun a U => a = (as.map (mv G)).toArray ∧ vld as ∧ Kn G U ∧ Hd G μ U.heap
def Qq (G : Ge) (Φ : Ph) : Array Value → State → Outcome → State → Prop := fun _ st oc t => (∃ (r : Option Value) (μ : Mm), oc = .returned r ∧ Φ r μ ∧ Hd G μ t.heap) ∧ va_F (Aw G) st t
/-- a method, called with as over μ, comes back with Φ -/
def CS (G : Ge) (M : MS) (as : List Vl) (μ : Mm) (Φ : Ph) : Prop := Met (gl G) (my M) (mws M) (mR M) (Pq G as μ) (Qq G Φ) 0 0 (Aw G)
theorem Pq_blind (G : Ge) (as : List Vl) (μ : Mm) : FrameBlind (Pq G as μ) := by
  intro a U g mk h
  obtain ⟨h1, h2, h3, h4⟩ := h
  exact ⟨h1, h2, Kn_moved (u := U) (U := U.calling g mk a) (Vm.Alike.refl U.vm) (nest_same rfl) (fun _ _ _ => rfl) h3, h4⟩
/-- locals by places -/
def lp (G : Ge) : Nat → List Vl → List (Nat × Value)
  | _, [] => []
  | j, v :: vs => match v.1 with
    | .retAddr _ => lp G (j + 1) vs
    | _ => (j, mv G v) :: lp G (j + 1) vs
def lR (G : Ge) (L : Array Slot) (n : Nat) (ls : List Vl) : Prop := lv_has L n (lp G 0 ls)
def lget : List Vl → Nat → Vl
  | [], _ => un
  | a :: _, 0 => a
  | _ :: l, n + 1 => lget l n
def st1 : List Vl → Nat → Vl → List Vl
  | [], _, _ => []
  | _ :: l, 0, v => v :: l
  | a :: l, n + 1, v => (match n with
    | 0 => match a.1 with
      | .long _ => un
      | .double _ => un
      | _ => a
    | _ => a) :: st1 l n v
def st2 : List Vl → Nat → Vl → List Vl
  | [], _, _ => []
  | [_], _, _ => []
  | _ :: _ :: l, 0, v => v :: un :: l
  | a :: b :: l, n + 1, v => (match n with
    | 0 => match a.1 with
      | .long _ => un
      | .double _ => un
      | _ => a
    | _ => a) :: st2 (b :: l) n v
/-- what holds of the machine while a method runs -/
def Ev (G : Ge) (M : MS) (p : Program) (s : State) (m : MethodId) (args : Array Value) (meth : Method) (c : Code) (cells slots : Nat) : Prop :=
  p.tables.exec = Jvm.exec ∧ c.code = mc M ∧ meth.sig.returnType = mr M ∧ meth.locks = false ∧ c.maxLocals = mL M ∧ s.vm.findClass (my M).cls = some m.cls ∧ (∀ w ∈ lw_g, w.before args s = true) ∧ Kn G s ∧ cells ≤ (mR M).cells ∧ slots ≤ (mR M).slots
/-- how it may end -/
def Rt (G : Ge) (M : MS) (p : Program) (e : Env) (s : State) (m : MethodId) (args : Array Value) (below : List Frame) (meth : Method) (c : Code) (cells slots : Nat) (Q : State → Prop) (Φ : Ph) : Prop :=
  ∀ (r : Option Value) (μ : Mm) (H : Heap) (locs : List Loc) (L : Array Slot) (pc : Nat), Φ r μ → Hd G μ H → va_S (Aw G) s.heap H locs →
    (match r with
      | some (.int v) => decode (mc M) pc = .ok (.ireturn, 1) ∧ (mr M = some .int ∨ (mr M = some .boolean ∧ (v = 0 ∨ v = 1)))
      | some (.long _) => decode (mc M) pc = .ok (.lreturn, 1) ∧ mr M = some .long
      | none => decode (mc M) pc = .ok (.return_, 1) ∧ mr M = none
      | _ => False) → W p (gl G) e (mR M) s m args below meth c H locs cells slots Q (F0 m pc L r.toList)
/-- from here the method comes to its end with Φ -/
def SS (G : Ge) (M : MS) (pc : Nat) (ls st : List Vl) (μ : Mm) (Φ : Ph) : Prop :=
  ∀ (p : Program) (e : Env) (s : State) (m : MethodId) (args : Array Value) (below : List Frame) (meth : Method) (c : Code) (cells slots : Nat) (Q : State → Prop), Ev G M p s m args meth c cells slots → Rt G M p e s m args below meth c cells slots Q Φ →
    ∀ (H : Heap) (locs : List Loc) (L : Array Slot), Hd G μ H → va_S (Aw G) s.heap H locs → lR G L (mL M) ls → vld ls → vld st → W p (gl G) e (mR M) s m args below meth c H locs cells slots Q (F0 m pc L (st.map (mv G)))
/-! stores -/
def wI (μ : Mm) (k i s : Nat) (v : Int32) : Mm := (fun k' i' s' => if k' = k ∧ i' = i ∧ s' = s then v else μ.1 k' i' s', μ.2)
def wL (μ : Mm) (k i s : Nat) (v : Int64) : Mm := (μ.1, fun k' i' s' => if k' = k ∧ i' = i ∧ s' = s then v else μ.2 k' i' s')
def cI (μ : Mm) (k0 i0 s0 k i s n : Nat) : Mm := (fun k' i' s' => if k' = k ∧ i' = i ∧ s ≤ s' ∧ s' < s + n then μ.1 k0 i0 (s0 + (s' - s)) else μ.1 k' i' s', μ.2)
def cL (μ : Mm) (k0 i0 s0 k i s n : Nat) : Mm := (μ.1, fun k' i' s' => if k' = k ∧ i' = i ∧ s ≤ s' ∧ s' < s + n then μ.2 k0 i0 (s0 + (s' - s)) else μ.2 k' i' s')
/-! one instruction: place, instruction, length, two numbers, an int, a long, a switch's rows -/
abbrev En : Type := Nat × Instr × Nat × Nat × Nat × Int32 × Int64 × List (Int32 × Nat)
abbrev e0 (pc : Nat) (i : Instr) (len : Nat) : En := (pc, i, len, 0, 0, 0, 0, [])
abbrev eT (pc : Nat) (i : Instr) (len tgt : Nat) : En := (pc, i, len, tgt, 0, 0, 0, [])
abbrev eC (pc : Nat) (i : Instr) (len : Nat) (c : Int32) : En := (pc, i, len, 0, 0, c, 0, [])
abbrev eD (pc : Nat) (i : Instr) (len : Nat) (d : Int64) : En := (pc, i, len, 0, 0, 0, d, [])
abbrev eF (pc : Nat) (i : Instr) (len a b : Nat) : En := (pc, i, len, a, b, 0, 0, [])
abbrev eS (pc : Nat) (i : Instr) (len dflt : Nat) (cs : List (Int32 × Nat)) : En := (pc, i, len, dflt, 0, 0, 0, cs)
/-- links of a type: fields (entry, type, field), calls (entry, how, method), ints, longs, tables -/
abbrev Lk : Type := List (Nat × Nat × Nat) × List (Nat × Nat × MS) × List (Nat × Int32) × List (Nat × Int64) × List (Nat × Nat)
def m0 : MS := (⟨"", "", ""⟩, ⟨#[]⟩, 0, none, { frames := 0, cells := 0, slots := 0, locals := 0 }, 0, 99)
/-- what the stack must bear -/
def p1 (st : List Vl) (k : Int32 → List Vl → Prop) : Prop := match st with
  | (.int x, _) :: r => k x r
  | _ => False
def p2 (st : List Vl) (k : Int32 → Int32 → List Vl → Prop) : Prop := match st with
  | (.int y, _) :: (.int x, _) :: r => k x y r
  | _ => False
def q1 (st : List Vl) (k : Int64 → List Vl → Prop) : Prop := match st with
  | (.long x, _) :: r => k x r
  | _ => False
def q2 (st : List Vl) (k : Int64 → Int64 → List Vl → Prop) : Prop := match st with
  | (.long y, _) :: (.long x, _) :: r => k x y r
  | _ => False
def pr (st : List Vl) (k : Nat → Nat → List Vl → Prop) : Prop := match st with
  | (.ref a, i) :: r => k a i r
  | _ => False
def pa (st : List Vl) (k : Int32 → Nat → Nat → List Vl → Prop) : Prop := match st with
  | (.int j, _) :: (.ref a, i) :: r => k j a i r
  | _ => False
def ps (st : List Vl) (k : Int32 → Int32 → Nat → Nat → List Vl → Prop) : Prop := match st with
  | (.int x, _) :: (.int j, _) :: (.ref a, i) :: r => k x j a i r
  | _ => False
def pls (st : List Vl) (k : Int64 → Int32 → Nat → Nat → List Vl → Prop) : Prop := match st with
  | (.long x, _) :: (.int j, _) :: (.ref a, i) :: r => k x j a i r
  | _ => False
def bq (b : Bool) (P : Prop) : Prop := match b with
  | true => P
  | false => False
def vcat (v : Vl) : Nat := match v.1 with
  | .long _ => 2
  | .double _ => 2
  | _ => 1
def wsum : List Vl → Nat
  | [] => 0
  | v :: l => vcat v + wsum l
def popA : Nat → List Vl → List Vl → (List Vl → List Vl → Prop) → Prop
  | 0, st, acc, k => k acc st
  | n + 1, v :: st, acc, k => popA n st (v :: acc) k
  | _ + 1, [], _, _ => False
def swt (x : Int32) (nx : Nat → Prop) (d : Nat) : List (Int32 × Nat) → Prop
  | [] => nx d
  | q :: l => if x = q.1 then nx q.2 else swt x nx d l
def callK (G : Ge) (M' : MS) (as : List Vl) (μ : Mm) (r : List Vl) (nx : List Vl → Mm → Prop) : Prop := match mr M' with
  | none => CS G M' as μ (RV (fun μ' => nx r μ'))
  | some .int => CS G M' as μ (RI (fun v μ' => nx (vi v :: r) μ'))
  | some .boolean => CS G M' as μ (RI (fun v μ' => nx (vi v :: r) μ'))
  | some .long => CS G M' as μ (RL (fun v μ' => nx (vl v :: r) μ'))
  | _ => False
def cpy (st : List Vl) (μ : Mm) (nx : List Vl → Mm → Prop) : Prop := match st with
  | (.int n, _) :: (.int dp, _) :: (.ref k, i) :: (.int sp, _) :: (.ref k0, i0) :: r => (match ktag k0 with
    | 1 => bq (Nat.beq (ktag k) 1 && Nat.ble (wsum r) 8) ((¬ sp < 0 ∧ ¬ dp < 0 ∧ ¬ n < 0 ∧ sp.toNatClampNeg + n.toNatClampNeg ≤ klen k0 ∧ dp.toNatClampNeg + n.toNatClampNeg ≤ klen k) ∧ nx r (cI μ k0 i0 sp.toNatClampNeg k i dp.toNatClampNeg n.toNatClampNeg))
    | 2 => bq (Nat.beq (ktag k) 2 && Nat.ble (wsum r) 8) ((¬ sp < 0 ∧ ¬ dp < 0 ∧ ¬ n < 0 ∧ sp.toNatClampNeg + n.toNatClampNeg ≤ klen k0 ∧ dp.toNatClampNeg + n.toNatClampNeg ≤ klen k) ∧ nx r (cL μ k0 i0 sp.toNatClampNeg k i dp.toNatClampNeg n.toNatClampNeg))
    | _ => False)
  | _ => False
def cV (G : Ge) (q : Nat × Nat × MS) (st : List Vl) (μ : Mm) (nx : List Vl → Mm → Prop) : Prop := match q.2.1 with
  | 0 => popA (mN q.2.2) st [] (fun as r0 => pr r0 (fun k i r => match ktag k with
    | 0 => bq (Nat.beq (kcl k) (mK q.2.2) && Nat.ble (wsum r) 8) (callK G q.2.2 (vr k i :: as) μ r nx)
    | _ => False))
  | _ => False
def cS (G : Ge) (q : Nat × Nat × MS) (st : List Vl) (μ : Mm) (nx : List Vl → Mm → Prop) : Prop := match q.2.1 with
  | 0 => False
  | 1 => popA (mN q.2.2) st [] (fun as r => bq (Nat.ble (wsum r) 8) (callK G q.2.2 as μ r nx))
  | 2 => popA (mN q.2.2) st [] (fun as r => bq (Nat.ble (wsum r) 8) (callK G q.2.2 as μ r nx))
  | 3 => cpy st μ nx
  | _ => False
def gF (k i a b : Nat) (μ : Mm) (nx : Vl → Prop) : Prop := match ktag k with
  | 0 => bq (Nat.beq (kcl k) a) (match fc (kcl k) b with
    | 0 => nx (vi (μ.1 k i b))
    | 1 => nx (vl (μ.2 k i b))
    | 2 => nx (rf k i b)
    | 3 => if μ.1 k i b = 0 then nx vn else nx (vr 8 ((μ.1 k i b).toNatClampNeg - 1))
    | _ => False)
  | _ => False
def pF (st : List Vl) (a b : Nat) (μ : Mm) (nx : List Vl → Mm → Prop) : Prop := match st with
  | (.int x, _) :: (.ref k, i) :: r => (match ktag k with
    | 0 => bq (Nat.beq (kcl k) a && Nat.beq (fc (kcl k) b) 0) (nx r (wI μ k i b x))
    | _ => False)
  | (.long x, _) :: (.ref k, i) :: r => (match ktag k with
    | 0 => bq (Nat.beq (kcl k) a && Nat.beq (fc (kcl k) b) 1) (nx r (wL μ k i b x))
    | _ => False)
  | (.ref k', i') :: (.ref k, i) :: r => (match ktag k with
    | 0 => bq (Nat.beq (kcl k) a && Nat.beq (fc (kcl k) b) 3 && Nat.beq k' 8) (nx r (wI μ k i b (nI (i' + 1))))
    | _ => False)
  | _ => False
def lI (ls : List Vl) (k : Nat) (nx : Int32 → Prop) : Prop := match lget ls k with
  | (.int x, _) => nx x
  | _ => False
def lJ (ls : List Vl) (k : Nat) (nx : Int64 → Prop) : Prop := match lget ls k with
  | (.long x, _) => nx x
  | _ => False
def lA (ls : List Vl) (k : Nat) (nx : Nat → Nat → Prop) : Prop := match lget ls k with
  | (.ref x, i) => nx x i
  | _ => False
def eI (M : MS) (st : List Vl) (μ : Mm) (Φ : Ph) : Prop := match st with
  | [(.int v, _)] => (match mr M with
    | some .int => Φ (some (.int v)) μ
    | some .boolean => (v = 0 ∨ v = 1) ∧ Φ (some (.int v)) μ
    | _ => False)
  | _ => False
def eJ (M : MS) (st : List Vl) (μ : Mm) (Φ : Ph) : Prop := match st with
  | [(.long v, _)] => (match mr M with
    | some .long => Φ (some (.long v)) μ
    | _ => False)
  | _ => False
def eV (M : MS) (st : List Vl) (μ : Mm) (Φ : Ph) : Prop := match st with
  | [] => (match mr M with
    | none => Φ none μ
    | _ => False)
  | _ => False
/-- an instruction's demand, nx what is to hold at the next one (place, locals, stack, memory) -/
def stp (G : Ge) (M : MS) (ml : List (Nat × Nat × MS)) (e : En) (nx : Nat → List Vl → List Vl → Mm → Prop) (ls st : List Vl) (μ : Mm) (Φ : Ph) : Prop :=
  match e with
  | (pc, ins, len, a, b, c, d, cs) =>
  match ins with
  | .iconst _ => nx (pc + len) ls (vi c :: st) μ
  | .bipush _ => nx (pc + len) ls (vi c :: st) μ
  | .sipush _ => nx (pc + len) ls (vi c :: st) μ
  | .ldc _ => nx (pc + len) ls (vi c :: st) μ
  | .ldc_w _ => nx (pc + len) ls (vi c :: st) μ
  | .lconst _ => nx (pc + len) ls (vl d :: st) μ
  | .ldc2_w _ => nx (pc + len) ls (vl d :: st) μ
  | .iload_n k => lI ls k.val (fun x => nx (pc + len) ls (vi x :: st) μ)
  | .iload k => lI ls k (fun x => nx (pc + len) ls (vi x :: st) μ)
  | .lload_n k => lJ ls k.val (fun x => nx (pc + len) ls (vl x :: st) μ)
  | .lload k => lJ ls k (fun x => nx (pc + len) ls (vl x :: st) μ)
  | .aload_n k => lA ls k.val (fun x i => nx (pc + len) ls (vr x i :: st) μ)
  | .aload k => lA ls k (fun x i => nx (pc + len) ls (vr x i :: st) μ)
  | .istore_n k => p1 st (fun x r => bq (Nat.blt k.val (mL M)) (nx (pc + len) (st1 ls k.val (vi x)) r μ))
  | .istore k => p1 st (fun x r => bq (Nat.blt k (mL M)) (nx (pc + len) (st1 ls k (vi x)) r μ))
  | .lstore_n k => q1 st (fun x r => bq (Nat.blt (k.val + 1) (mL M)) (nx (pc + len) (st2 ls k.val (vl x)) r μ))
  | .lstore k => q1 st (fun x r => bq (Nat.blt (k + 1) (mL M)) (nx (pc + len) (st2 ls k (vl x)) r μ))
  | .astore_n k => pr st (fun x i r => bq (Nat.blt k.val (mL M)) (nx (pc + len) (st1 ls k.val (vr x i)) r μ))
  | .astore k => pr st (fun x i r => bq (Nat.blt k (mL M)) (nx (pc + len) (st1 ls k (vr x i)) r μ))
  | .iinc k _ => lI ls k (fun x => bq (Nat.blt k (mL M)) (nx (pc + len) (st1 ls k (vi (x + c))) st μ))
  | .iadd => p2 st (fun x y r => nx (pc + len) ls (vi (x + y) :: r) μ)
  | .isub => p2 st (fun x y r => nx (pc + len) ls (vi (x - y) :: r) μ)
  | .imul => p2 st (fun x y r => nx (pc + len) ls (vi (x * y) :: r) μ)
  | .iand => p2 st (fun x y r => nx (pc + len) ls (vi (x &&& y) :: r) μ)
  | .ior => p2 st (fun x y r => nx (pc + len) ls (vi (x ||| y) :: r) μ)
  | .ishl => p2 st (fun x y r => nx (pc + len) ls (vi (x <<< (y &&& 31)) :: r) μ)
  | .ishr => p2 st (fun x y r => nx (pc + len) ls (vi (x >>> (y &&& 31)) :: r) μ)
  | .iushr => p2 st (fun x y r => nx (pc + len) ls (vi ((x.toUInt32 >>> (y.toUInt32 &&& Int32.toUInt32 31)).toInt32) :: r) μ)
  | .idiv => p2 st (fun x y r => ¬ y = 0 ∧ nx (pc + len) ls (vi (x / y) :: r) μ)
  | .ladd => q2 st (fun x y r => nx (pc + len) ls (vl (x + y) :: r) μ)
  | .lmul => q2 st (fun x y r => nx (pc + len) ls (vl (x * y) :: r) μ)
  | .ldiv => q2 st (fun x y r => ¬ y = 0 ∧ nx (pc + len) ls (vl (x / y) :: r) μ)
  | .lrem => q2 st (fun x y r => ¬ y = 0 ∧ nx (pc + len) ls (vl (x - x / y * y) :: r) μ)
  | .lneg => q1 st (fun x r => nx (pc + len) ls (vl (-x) :: r) μ)
  | .lcmp => q2 st (fun x y r => nx (pc + len) ls (vi (lg_cmp x y) :: r) μ)
  | .i2l => p1 st (fun x r => nx (pc + len) ls (vl x.toInt64 :: r) μ)
  | .l2i => q1 st (fun x r => nx (pc + len) ls (vi x.toInt32 :: r) μ)
  | .i2b => p1 st (fun x r => nx (pc + len) ls (vi x.toInt8.toInt32 :: r) μ)
  | .dup => match st with
    | v :: r => bq (Nat.beq (vcat v) 1) (nx (pc + len) ls (v :: v :: r) μ)
    | _ => False
  | .dup2 => match st with
    | v :: w :: r => bq (Nat.beq (vcat v) 1 && Nat.beq (vcat w) 1) (nx (pc + len) ls (v :: w :: v :: w :: r) μ)
    | _ => False
  | .pop => match st with
    | v :: r => bq (Nat.beq (vcat v) 1) (nx (pc + len) ls r μ)
    | _ => False
  | .goto _ => nx a ls st μ
  | .ifCond .eq _ => p1 st (fun x r => if x = 0 then nx a ls r μ else nx (pc + len) ls r μ)
  | .ifCond .ne _ => p1 st (fun x r => if x = 0 then nx (pc + len) ls r μ else nx a ls r μ)
  | .ifCond .lt _ => p1 st (fun x r => if x < 0 then nx a ls r μ else nx (pc + len) ls r μ)
  | .ifCond .ge _ => p1 st (fun x r => if 0 ≤ x then nx a ls r μ else nx (pc + len) ls r μ)
  | .ifCond .gt _ => p1 st (fun x r => if 0 < x then nx a ls r μ else nx (pc + len) ls r μ)
  | .ifCond .le _ => p1 st (fun x r => if x ≤ 0 then nx a ls r μ else nx (pc + len) ls r μ)
  | .if_icmp .eq _ => p2 st (fun x y r => if x = y then nx a ls r μ else nx (pc + len) ls r μ)
  | .if_icmp .ne _ => p2 st (fun x y r => if x = y then nx (pc + len) ls r μ else nx a ls r μ)
  | .if_icmp .lt _ => p2 st (fun x y r => if x < y then nx a ls r μ else nx (pc + len) ls r μ)
  | .if_icmp .ge _ => p2 st (fun x y r => if y ≤ x then nx a ls r μ else nx (pc + len) ls r μ)
  | .if_icmp .gt _ => p2 st (fun x y r => if y < x then nx a ls r μ else nx (pc + len) ls r μ)
  | .if_icmp .le _ => p2 st (fun x y r => if x ≤ y then nx a ls r μ else nx (pc + len) ls r μ)
  | .ifnull _ => match st with
    | (.null, _) :: r => nx a ls r μ
    | (.ref _, _) :: r => nx (pc + len) ls r μ
    | _ => False
  | .tableswitch _ _ _ _ => p1 st (fun x r => swt x (fun t => nx t ls r μ) a cs)
  | .lookupswitch _ _ => p1 st (fun x r => swt x (fun t => nx t ls r μ) a cs)
  | .getfield _ => pr st (fun k i r => gF k i a b μ (fun v => nx (pc + len) ls (v :: r) μ))
  | .putfield _ => pF st a b μ (fun r μ' => nx (pc + len) ls r μ')
  | .iaload => pa st (fun j k i r => match ktag k with
    | 1 => vp_in j (klen k) ∧ nx (pc + len) ls (vi (μ.1 k i j.toNatClampNeg) :: r) μ
    | 6 => vp_in j 6 ∧ nx (pc + len) ls (vi (rom k j.toNatClampNeg) :: r) μ
    | 7 => vp_in j (gL G) ∧ nx (pc + len) ls (vi (gxs G j.toNatClampNeg) :: r) μ
    | _ => False)
  | .laload => pa st (fun j k i r => match ktag k with
    | 2 => vp_in j (klen k) ∧ nx (pc + len) ls (vl (μ.2 k i j.toNatClampNeg) :: r) μ
    | _ => False)
  | .baload => pa st (fun j k i r => match ktag k with
    | 3 => vp_in j (klen k) ∧ nx (pc + len) ls (vi (μ.1 k i j.toNatClampNeg) :: r) μ
    | 4 => vp_in j (klen k) ∧ nx (pc + len) ls (vi (μ.1 k i j.toNatClampNeg) :: r) μ
    | _ => False)
  | .aaload => pa st (fun j k i r => match ktag k with
    | 5 => vp_in j (klen k) ∧ nx (pc + len) ls (rf k i j.toNatClampNeg :: r) μ
    | _ => False)
  | .iastore => ps st (fun x j k i r => match ktag k with
    | 1 => vp_in j (klen k) ∧ nx (pc + len) ls r (wI μ k i j.toNatClampNeg x)
    | _ => False)
  | .lastore => pls st (fun x j k i r => match ktag k with
    | 2 => vp_in j (klen k) ∧ nx (pc + len) ls r (wL μ k i j.toNatClampNeg x)
    | _ => False)
  | .bastore => ps st (fun x j k i r => match ktag k with
    | 3 => vp_in j (klen k) ∧ nx (pc + len) ls r (wI μ k i j.toNatClampNeg x.toInt8.toInt32)
    | 4 => vp_in j (klen k) ∧ nx (pc + len) ls r (wI μ k i j.toNatClampNeg (x &&& 1))
    | _ => False)
  | .arraylength => pr st (fun k _ r => match ktag k with
    | 1 => nx (pc + len) ls (vi (nI (klen k)) :: r) μ
    | 2 => nx (pc + len) ls (vi (nI (klen k)) :: r) μ
    | 7 => nx (pc + len) ls (vi (nI (gL G)) :: r) μ
    | _ => False)
  | .getstatic _ => nx (pc + len) ls (vr a 0 :: st) μ
  | .invokevirtual _ => cV G (ml.getD a (0, 9, m0)) st μ (fun st' μ' => nx (pc + len) ls st' μ')
  | .invokestatic _ => cS G (ml.getD a (0, 9, m0)) st μ (fun st' μ' => nx (pc + len) ls st' μ')
  | .ireturn => eI M st μ Φ
  | .lreturn => eJ M st μ Φ
  | .return_ => eV M st μ Φ
  | _ => False
def fnd (pc : Nat) : List En → Option En
  | [] => none
  | e :: l => match Nat.beq e.1 pc with
    | true => some e
    | false => fnd pc l
def fcut (pc : Nat) : List (Nat × List Bool) → Option (List Bool)
  | [] => none
  | q :: l => match Nat.beq q.1 pc with
    | true => some q.2
    | false => fcut pc l
def msk : List Bool → List Vl → List Vl
  | [], _ => []
  | _, [] => []
  | true :: b, v :: l => v :: msk b l
  | false :: b, _ :: l => un :: msk b l
/-- the demand at a place, down to the cuts -/
def wp (G : Ge) (M : MS) (ml : List (Nat × Nat × MS)) (tb : List En) (cu : List (Nat × List Bool)) (Φ : Ph) : Nat → Bool → Nat → List Vl → List Vl → Mm → Prop
  | 0, _, _, _, _, _ => False
  | n + 1, fst, pc, ls, st, μ => match fst, fcut pc cu with
    | false, some bs => SS G M pc (msk bs ls) st μ Φ
    | _, _ => match fnd pc tb with
      | some e => stp G M ml e (fun pc' ls' st' μ' => wp G M ml tb cu Φ n false pc' ls' st' μ') ls st μ Φ
      | none => False
