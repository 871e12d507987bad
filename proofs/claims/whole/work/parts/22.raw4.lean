/-! the run of the constructors, by computing -/
abbrev Nx : Type := Nat → List Vl → List Vl → Rm → Nat → Nat → Option Rm
def x1 (st : List Vl) (f : Int32 → List Vl → Option Rm) : Option Rm := match st with
  | (.int x, _) :: r => f x r
  | _ => none
def x2 (st : List Vl) (f : Int32 → Int32 → List Vl → Option Rm) : Option Rm := match st with
  | (.int y, _) :: (.int x, _) :: r => f x y r
  | _ => none
def xr (st : List Vl) (f : Nat → List Vl → Option Rm) : Option Rm := match st with
  | (.ref o, 0) :: r => f o r
  | _ => none
def xp (st : List Vl) (f : Vl → Nat → List Vl → Option Rm) : Option Rm := match st with
  | v :: (.ref o, 0) :: r => f v o r
  | _ => none
def xs (st : List Vl) (f : Vl → Int32 → Nat → List Vl → Option Rm) : Option Rm := match st with
  | v :: (.int j, _) :: (.ref o, 0) :: r => f v j o r
  | _ => none
def xi (v : Vl) (f : Int32 → Option Rm) : Option Rm := match v with
  | (.int x, _) => f x
  | _ => none
def xa (v : Vl) (f : Nat → Option Rm) : Option Rm := match v with
  | (.ref x, 0) => f x
  | _ => none
def xo (cs : Rm) (o tg a : Nat) (f : Nat → List (Nat × Vl) → Option Rm) : Option Rm := match cs[o]? with
  | some (t, c, n, u) => if t = tg ∧ c = a then f n u else none
  | none => none
def xv (st : List Vl) (f : Option Rm) : Option Rm := match st with
  | [] => f
  | _ => none
def xn : Nat → List Vl → List Vl → (List Vl → Nat → List Vl → Option Rm) → Option Rm
  | 0, st, acc, f => (match st with
    | (.ref o, 0) :: r => f acc o r
    | _ => none)
  | n + 1, v :: st, acc, f => xn n st (v :: acc) f
  | _ + 1, [], _, _ => none
theorem x1_c {st : List Vl} {f : Int32 → List Vl → Option Rm} {y : Rm} (h : x1 st f = some y) : ∃ x e r, st = (.int x, e) :: r ∧ f x r = some y := by
  unfold x1 at h
  split at h
  · exact ⟨_, _, _, rfl, h⟩
  · cases h
theorem x2_c {st : List Vl} {f : Int32 → Int32 → List Vl → Option Rm} {y : Rm} (h : x2 st f = some y) : ∃ a b e1 e2 r, st = (.int b, e1) :: (.int a, e2) :: r ∧ f a b r = some y := by
  unfold x2 at h
  split at h
  · exact ⟨_, _, _, _, _, rfl, h⟩
  · cases h
theorem xr_c {st : List Vl} {f : Nat → List Vl → Option Rm} {y : Rm} (h : xr st f = some y) : ∃ o r, st = (.ref o, 0) :: r ∧ f o r = some y := by
  unfold xr at h
  split at h
  · exact ⟨_, _, rfl, h⟩
  · cases h
theorem xp_c {st : List Vl} {f : Vl → Nat → List Vl → Option Rm} {y : Rm} (h : xp st f = some y) : ∃ v o r, st = v :: (.ref o, 0) :: r ∧ f v o r = some y := by
  unfold xp at h
  split at h
  · exact ⟨_, _, _, rfl, h⟩
  · cases h
theorem xs_c {st : List Vl} {f : Vl → Int32 → Nat → List Vl → Option Rm} {y : Rm} (h : xs st f = some y) : ∃ v j e1 o r, st = v :: (.int j, e1) :: (.ref o, 0) :: r ∧ f v j o r = some y := by
  unfold xs at h
  split at h
  · exact ⟨_, _, _, _, _, rfl, h⟩
  · cases h
theorem xi_c {v : Vl} {f : Int32 → Option Rm} {y : Rm} (h : xi v f = some y) : ∃ x e, v = (.int x, e) ∧ f x = some y := by
  unfold xi at h
  split at h
  · exact ⟨_, _, rfl, h⟩
  · cases h
theorem xa_c {v : Vl} {f : Nat → Option Rm} {y : Rm} (h : xa v f = some y) : ∃ x, v = (.ref x, 0) ∧ f x = some y := by
  unfold xa at h
  split at h
  · exact ⟨_, rfl, h⟩
  · cases h
theorem xo_c {cs : Rm} {o tg a : Nat} {f : Nat → List (Nat × Vl) → Option Rm} {y : Rm} (h : xo cs o tg a f = some y) : ∃ n u, cs[o]? = some (tg, a, n, u) ∧ f n u = some y := by
  unfold xo at h
  split at h
  · rename_i t c n u hq
    split at h
    · rename_i hc
      obtain ⟨rfl, rfl⟩ := hc
      exact ⟨n, u, hq, h⟩
    · cases h
  · cases h
theorem xv_c {st : List Vl} {f : Option Rm} {y : Rm} (h : xv st f = some y) : st = [] ∧ f = some y := by
  unfold xv at h
  split at h
  · exact ⟨rfl, h⟩
  · cases h
theorem xn_c : ∀ (n : Nat) (st acc : List Vl) (f : List Vl → Nat → List Vl → Option Rm) (y : Rm), xn n st acc f = some y → ∃ as o r, as.length = n ∧ st = as.reverse ++ (.ref o, 0) :: r ∧ f (as ++ acc) o r = some y
  | 0, st, acc, f, y, h => by
    unfold xn at h
    split at h
    · exact ⟨[], _, _, rfl, rfl, h⟩
    · cases h
  | n + 1, v :: st, acc, f, y, h => by
    obtain ⟨as, o, r, h1, h2, h3⟩ := xn_c n st (v :: acc) f y h
    exact ⟨as ++ [v], o, r, by simp [h1], by rw [h2]; simp, by rw [List.append_assoc]; exact h3⟩
  | n + 1, [], acc, f, y, h => by cases h
/-- a step: M the method, nx what comes next, cl the call of the j-th constructor -/
def rst (M : MS) (ms : Nat → MS) (e : En) (nx : Nx) (cl : Nat → List Vl → Rm → Option Rm) (ls st : List Vl) (cs : Rm) (k w : Nat) : Option Rm := match e with
  | (pc, ins, len, a, b, c, d, _) => match ins with
    | .aload_n i => xa (lget ls i.val) (fun x => nx (pc + 1) ls ((.ref x, 0) :: st) cs k w)
    | .iload_n i => xi (lget ls i.val) (fun x => nx (pc + 1) ls (vi x :: st) cs k w)
    | .iconst _ => nx (pc + 1) ls (vi c :: st) cs k w
    | .bipush _ => nx (pc + 2) ls (vi c :: st) cs k w
    | .sipush _ => nx (pc + 3) ls (vi c :: st) cs k w
    | .lconst _ => nx (pc + 1) ls (vl d :: st) cs k w
    | .aconst_null => nx (pc + 1) ls (vn :: st) cs k w
    | .dup => xr st (fun o r => nx (pc + 1) ls ((.ref o, 0) :: (.ref o, 0) :: r) cs k w)
    | .istore_n i => x1 st (fun x r => if i.val < mL M then nx (pc + 1) (st1 ls i.val (vi x)) r cs k w else none)
    | .iinc i _ => xi (lget ls i) (fun x => if i < mL M then nx (pc + 3) (st1 ls i (vi (x + c))) st cs k w else none)
    | .if_icmp .ge _ => x2 st (fun x y r => if y ≤ x then nx a ls r cs k w else nx (pc + 3) ls r cs k w)
    | .goto _ => nx a ls st cs k w
    | .new _ => if k + 1 ≤ (mR M).cells ∧ w + b ≤ (mR M).slots then nx (pc + 3) ls ((.ref cs.length, 0) :: st) (cs ++ [(0, a, b, [])]) (k + 1) (w + b) else none
    | .newarray _ => x1 st (fun n r => if ¬ n < 0 ∧ n.toNatClampNeg ≤ 10000 ∧ k + 1 ≤ (mR M).cells ∧ w + n.toNatClampNeg ≤ (mR M).slots then nx (pc + 2) ls ((.ref cs.length, 0) :: r) (cs ++ [(1, a, n.toNatClampNeg, [])]) (k + 1) (w + n.toNatClampNeg) else none)
    | .anewarray _ => x1 st (fun n r => if ¬ n < 0 ∧ n.toNatClampNeg ≤ 10000 ∧ k + 1 ≤ (mR M).cells ∧ w + n.toNatClampNeg ≤ (mR M).slots then nx (pc + 3) ls ((.ref cs.length, 0) :: r) (cs ++ [(1, a, n.toNatClampNeg, [])]) (k + 1) (w + n.toNatClampNeg) else none)
    | .multianewarray _ _ => x2 st (fun n m2 r => if ¬ n < 0 ∧ n.toNatClampNeg ≤ 100 ∧ ¬ m2 < 0 ∧ m2.toNatClampNeg ≤ 100 ∧ k + (1 + n.toNatClampNeg) ≤ (mR M).cells ∧ w + (n.toNatClampNeg + n.toNatClampNeg * m2.toNatClampNeg) ≤ (mR M).slots then nx (pc + 4) ls ((.ref cs.length, 0) :: r) (cs ++ (rOut cs.length n.toNatClampNeg :: List.replicate n.toNatClampNeg (1, 0, m2.toNatClampNeg, []))) (k + 1 + n.toNatClampNeg) (w + n.toNatClampNeg + n.toNatClampNeg * m2.toNatClampNeg) else none)
    | .putfield _ => xp st (fun v o r => xo cs o 0 a (fun n _ => if vwCl[a]?.map (fun q => q.1) = some (my M).cls ∧ vwCl[a]?.map (fun q => q.2.2) = some n ∧ rok a b v = true then nx (pc + 3) ls r (rput cs o b v) k w else none))
    | .getfield _ => xr st (fun o r => xo cs o 0 a (fun n u => if vwCl[a]?.map (fun q => q.2.2) = some n then nx (pc + 3) ls (rvl (0, a, n, u) b :: r) cs k w else none))
    | .iastore => xs st (fun v j o r => xi v (fun x => xo cs o 1 0 (fun n _ => if ¬ j < 0 ∧ j.toNatClampNeg < n then nx (pc + 1) ls r (rput cs o j.toNatClampNeg (vi x)) k w else none)))
    | .aastore => xs st (fun v j o r => xa v (fun o2 => xo cs o2 0 a (fun _ _ => xo cs o 1 b (fun n _ => if ¬ j < 0 ∧ j.toNatClampNeg < n then nx (pc + 1) ls r (rput cs o j.toNatClampNeg (.ref o2, 0)) k w else none))))
    | .invokestatic _ => x2 st (fun x y r => if wsum r + 13 ≤ (mR M).locals ∧ k ≤ (mR M).cells ∧ w ≤ (mR M).slots then nx (pc + 3) ls (vi (if x < y then y else x) :: r) cs k w else none)
    | .invokespecial _ => (match a with
      | 0 => xr st (fun _ r => if wsum r + 12 ≤ (mR M).locals then nx (pc + 3) ls r cs k w else none)
      | j + 1 => xn (mN (ms j)) st [] (fun as o r => if wsum ((.ref o, 0) :: as) ≤ mL (ms j) ∧ wsum r ≤ 8 ∧ k + (mR (ms j)).cells ≤ (mR M).cells ∧ w + (mR (ms j)).slots ≤ (mR M).slots then (cl j ((.ref o, 0) :: as) cs).bind (fun cs1 => nx (pc + 3) ls r cs1 (k + (mR (ms j)).cells) (w + (mR (ms j)).slots)) else none))
    | .return_ => xv st (if k ≤ (mR M).cells ∧ w ≤ (mR M).slots then some cs else none)
    | _ => none
/-- a row is as the code has it -/
def okRE (M : MS) (ms : Nat → MS) (lk : Lk) (e : En) : Bool := decide (decode (mc M) e.1 = .ok (e.2.1, e.2.2.1)) && (match e with
  | (pc, ins, len, a, b, c, d, _) => match ins with
    | .aload_n _ => Nat.beq len 1
    | .iload_n _ => Nat.beq len 1
    | .iconst n => Nat.beq len 1 && decide (Int32.ofInt n = c)
    | .bipush n => Nat.beq len 2 && decide ((Int8.ofInt n).toInt32 = c)
    | .sipush n => Nat.beq len 3 && decide ((Int16.ofInt n).toInt32 = c)
    | .lconst n => Nat.beq len 1 && decide (Int64.ofNat (n : Nat) = d)
    | .iinc _ n => Nat.beq len 3 && decide (Int32.ofInt n = c)
    | .if_icmp _ off => Nat.beq len 3 && decide ((pc : Int) + off = (a : Int))
    | .goto off => Nat.beq len 3 && decide ((pc : Int) + off = (a : Int))
    | .new i => Nat.beq len 3 && (match vwCl[a]? with
      | some t => Nat.beq t.2.2 b && decide (Cond.classLink (my M).cls i t.1 ∈ lw_g) && decide (Cond.instantiable t.1 b ∈ lw_g) && decide (Cond.initialized t.1 ∈ lw_g)
      | none => false)
    | .newarray t => Nat.beq len 2 && decide (naT t = some a)
    | .anewarray i => Nat.beq len 3 && Nat.ble 4 a && Nat.blt a 7 && decide (Cond.classLink (my M).cls i (match aty a with
      | .object C => C
      | _ => "") ∈ lw_g)
    | .multianewarray i n => Nat.beq len 4 && Nat.beq n 2 && decide (Cond.classLink (my M).cls i "[[I" ∈ lw_g)
    | .putfield i => Nat.beq len 3 && decide ((i, a, b) ∈ lk.1)
    | .getfield i => Nat.beq len 3 && decide ((i, a, b) ∈ lk.1)
    | .aastore => Nat.beq len 1 && Nat.ble 4 b && Nat.blt b 7 && decide (vwCl[a]?.map (fun t => FieldType.object t.1) = some (aty b))
    | .invokestatic i => Nat.beq len 3 && decide (Cond.methodLink (my M).cls i Lib.Math.max.name ∈ lw_g) && Nat.ble 1 (mR M).frames
    | .invokespecial i => Nat.beq len 3 && (match a with
      | 0 => decide (Cond.methodLink (my M).cls i objectInit ∈ lw_g) && Nat.ble 1 (mR M).frames
      | j + 1 => okN (my M).cls i (ms j) && decide ((my (ms j)).name = "<init>") && decide (mr (ms j) = none) && plainFor (my (ms j)) && Nat.ble (1 + mN (ms j)) (mL (ms j)) && Nat.ble ((mR (ms j)).frames + 1) (mR M).frames && Nat.ble (8 + (mL (ms j) + 11) + (mR (ms j)).locals) (mR M).locals)
    | _ => Nat.beq len 1)
