/-! what the two objects stand for -/
abbrev Tl : Type := (Nat → Int32) × Int32 × Int32 × Int64 × Int64
abbrev Rw : Type := (Nat → Nat) × (Nat → Nat → Int32)
abbrev Dd : Type := Nat × Nat × Nat
/-- a street: houses, nights, kinds, warm, owed at first -/
abbrev Hs : Type := Nat × Nat × (Nat → Nat) × (Nat → Nat) × (Nat → Nat)
/-- its course: cold, how many deeds, deeds -/
abbrev Sc : Type := (Nat → Nat) × Nat × (Nat → Dd)
/-- how it stands: night, owes, pain, bore -/
abbrev Sv : Type := Nat × (Nat → Nat) × (Nat → Nat) × (Nat → Nat)
abbrev hn (H : Hs) : Nat := H.1
abbrev hN (H : Hs) : Nat := H.2.1
abbrev hk (H : Hs) : Nat → Nat := H.2.2.1
abbrev hw (H : Hs) : Nat → Nat := H.2.2.2.1
abbrev ho (H : Hs) : Nat → Nat := H.2.2.2.2
abbrev cc (c : Sc) : Nat → Nat := c.1
abbrev cD (c : Sc) : Nat := c.2.1
abbrev cd (c : Sc) : Nat → Dd := c.2.2
abbrev vt (s : Sv) : Nat := s.1
abbrev vo (s : Sv) : Nat → Nat := s.2.1
abbrev vp (s : Sv) : Nat → Nat := s.2.2.1
abbrev vb (s : Sv) : Nat → Nat := s.2.2.2
abbrev Ab : Type := Tl × Rw × Rw × Hs × Sc × (Nat → Option Sc)
abbrev aT (a : Ab) : Tl := a.1
abbrev aR (a : Ab) : Rw := a.2.1
abbrev aX (a : Ab) : Rw := a.2.2.1
abbrev aH (a : Ab) : Hs := a.2.2.2.1
abbrev aC (a : Ab) : Sc := a.2.2.2.2.1
abbrev aK (a : Ab) : Nat → Option Sc := a.2.2.2.2.2
def uf {α : Type} (f : Nat → α) (h : Nat) (v : α) : Nat → α := fun x => if x = h then v else f x
theorem uf_s {α : Type} (f : Nat → α) (h : Nat) (v : α) : uf f h v h = v := if_pos rfl
theorem uf_n {α : Type} {f : Nat → α} {h x : Nat} {v : α} (hx : x ≠ h) : uf f h v x = f x := if_neg hx
def wz (k w : Nat) : Nat := match k with
  | 1 => w + 2
  | 5 => w - 1
  | _ => w
def tms (k : Nat) : Nat := match k with
  | 2 => 2
  | 4 => 0
  | 5 => 2
  | _ => 1
/-- what d degrees hurt a house of kind k, so warm -/
def hu (k w d : Nat) : Nat := tms k * ((d - wz k w) * (d - wz k w))
def sp (H : Hs) (e : Dd) (s : Sv) : Sv := match e.1 with
  | 0 => (vt s + 1, vo s, vp s, fun _ => 0)
  | w + 1 => match e.2.1 with
    | 0 => (vt s, uf (vo s) w (vo s w - e.2.2), uf (vp s) w (vp s w + hu (hk H w) (hw H w) e.2.2), uf (vb s) w (e.2.2 + 1))
    | m + 1 => (vt s, uf (uf (vo s) w (vo s w - e.2.2)) m (uf (vo s) w (vo s w - e.2.2) m + e.2.2), vp s, vb s)
/-- how it stands behind i deeds -/
def sat (H : Hs) (ds : Nat → Dd) : Nat → Sv
  | 0 => (0, ho H, fun _ => 0, fun _ => 0)
  | i + 1 => sp H (ds i) (sat H ds i)
abbrev cs (H : Hs) (c : Sc) : Sv := sat H (cd c) (cD c)
/-- a deed that can be -/
def dv (H : Hs) (e : Dd) (s : Sv) : Prop := match e.1 with
  | 0 => vt s < hN H
  | w + 1 => w < hn H ∧ 1 ≤ e.2.2 ∧ e.2.2 ≤ vo s w ∧ (match e.2.1 with
    | 0 => True
    | m + 1 => m < hn H ∧ m ≠ w)
def HI (H : Hs) : Prop := hn H ≤ 5 ∧ hN H ≤ 8 ∧ (hn H = 0 → hN H = 0) ∧ ∀ h, h < hn H → hk H h ≤ 5 ∧ hw H h ≤ 9 ∧ ho H h ≤ 9
def CI (H : Hs) (c : Sc) : Prop := cD c ≤ 60 ∧ (∀ t, t < hN H → cc c t ≤ 9) ∧ ∀ i, i < cD c → dv H (cd c i) (sat H (cd c) i)
def RI2 (n m : Nat) (r : Rw) : Prop := ∀ i, i < n → r.1 i ≤ m + 1
def KI (H : Hs) (ke : Nat → Option Sc) : Prop := ∀ k c, k < 3 → ke k = some c → CI H c ∧ 1 ≤ hn H
def AI (a : Ab) : Prop := RI2 6 40 (aR a) ∧ RI2 4 60 (aX a) ∧ HI (aH a) ∧ CI (aH a) (aC a) ∧ KI (aH a) (aK a)
/-! areas of the memory -/
def ar (k i s : Nat) : Nat := match k with
  | 0 => if i < 5 then 3 else if i < 20 then 4 else 5
  | 3 => 1
  | 4 => if i < 1 then 3 else if i < 4 then 4 else 5
  | 6 => 0
  | 7 => match s with
    | 0 => 6
    | 1 => 6
    | 2 => 6
    | 3 => 6
    | 4 => 6
    | 10 => 9
    | 11 => 9
    | 21 => 9
    | _ => 11
  | 8 => 2
  | 17 => 0
  | 18 => 1
  | 19 => 2
  | 20 => if i < 1 then 3 else if i < 4 then 4 else 5
  | 21 => if i < 1 then 3 else if i < 4 then 4 else 5
  | 22 => if i < 1 then 3 else if i < 4 then 4 else 5
  | 23 => if i < 1 then 3 else if i < 4 then 4 else 5
  | 26 => 6
  | 27 => 7
  | 28 => 7
  | 30 => 8
  | 31 => 8
  | 32 => 9
  | 33 => 9
  | 34 => 9
  | 37 => 9
  | 38 => 9
  | 39 => 10
  | 40 => 10
  | 41 => 10
  | 42 => 10
  | 43 => 10
  | 29 => 11
  | 35 => 11
  | 36 => 11
  | 44 => 11
  | 45 => 11
  | 46 => 11
  | 47 => 11
  | 48 => 11
  | 49 => 11
  | 50 => 11
  | 51 => 11
  | _ => 5
def Fa (L : Nat → Bool) (μ μ1 : Mm) : Prop := Fr (fun k i s => L (ar k i s)) μ μ1
theorem Fa.rf {L : Nat → Bool} {μ : Mm} : Fa L μ μ := Fr.rf
theorem Fa.tr {L : Nat → Bool} {μ μ1 μ2 : Mm} (h : Fa L μ μ1) (h2 : Fa L μ1 μ2) : Fa L μ μ2 := Fr.tr h h2
theorem Fa.wI {L : Nat → Bool} {μ μ1 : Mm} {k i s : Nat} {v : Int32} (h : Fa L μ μ1) (hp : L (ar k i s) = true) : Fa L μ (wI μ1 k i s v) := Fr.wI h hp
theorem Fa.wL {L : Nat → Bool} {μ μ1 : Mm} {k i s : Nat} {v : Int64} (h : Fa L μ μ1) (hp : L (ar k i s) = true) : Fa L μ (wL μ1 k i s v) := Fr.wL h hp
theorem Fa.cI {L : Nat → Bool} {μ μ1 : Mm} {k0 i0 s0 k i s n : Nat} (h : Fa L μ μ1) (hp : ∀ s', L (ar k i s') = true) : Fa L μ (cI μ1 k0 i0 s0 k i s n) := Fr.cI h hp
theorem Fa.cL {L : Nat → Bool} {μ μ1 : Mm} {k0 i0 s0 k i s n : Nat} (h : Fa L μ μ1) (hp : ∀ s', L (ar k i s') = true) : Fa L μ (cL μ1 k0 i0 s0 k i s n) := Fr.cL h hp
theorem Fa.aI {L : Nat → Bool} {μ μ1 : Mm} {k i s n : Nat} {f : Nat → Int32} (h : Fa L μ μ1) (hp : ∀ s', L (ar k i s') = true) : Fa L μ (aI μ1 k i s n f) := Fr.aI h hp
theorem Fa.aL {L : Nat → Bool} {μ μ1 : Mm} {k i s n : Nat} {f : Nat → Int64} (h : Fa L μ μ1) (hp : ∀ s', L (ar k i s') = true) : Fa L μ (aL μ1 k i s n f) := Fr.aL h hp
theorem Fa.mono {L L' : Nat → Bool} {μ μ1 : Mm} (h : Fa L μ μ1) (hl : ∀ a, L' a = false → L a = false) : Fa L' μ μ1 := Fr.mono h (fun k i s q => hl _ q)
theorem Fa.i {L : Nat → Bool} {μ μ1 : Mm} (h : Fa L μ μ1) {k i s : Nat} (hp : L (ar k i s) = false) : μ1.1 k i s = μ.1 k i s := (h k i s hp).1
theorem Fa.it {L : Nat → Bool} {μ μ1 : Mm} {v : Int32} (h : Fa L μ μ1) {k i s : Nat} (hp : L (ar k i s) = false) (e : μ.1 k i s = v) : μ1.1 k i s = v := (h k i s hp).1.trans e
theorem Fa.lt {L : Nat → Bool} {μ μ1 : Mm} {v : Int64} (h : Fa L μ μ1) {k i s : Nat} (hp : L (ar k i s) = false) (e : μ.2 k i s = v) : μ1.2 k i s = v := (h k i s hp).2.trans e
theorem Fa.l {L : Nat → Bool} {μ μ1 : Mm} (h : Fa L μ μ1) {k i s : Nat} (hp : L (ar k i s) = false) : μ1.2 k i s = μ.2 k i s := (h k i s hp).2
/-- one area, the class's scratch, the reference's, the class's all, the reference's all -/
abbrev L1 (b : Nat) : Nat → Bool := fun a => Nat.beq a b
abbrev LC : Nat → Bool := fun a => Nat.ble a 5
abbrev LM : Nat → Bool := fun a => Nat.ble 6 a
/-! the class's object -/
def Ct (T : Tl) (μ : Mm) : Prop := (∀ f, f < 6 → μ.1 17 0 f = T.1 f) ∧ μ.1 6 0 8 = T.2.1 ∧ μ.1 6 0 9 = T.2.2.1 ∧ μ.2 6 0 10 = T.2.2.2.1 ∧ μ.2 6 0 11 = T.2.2.2.2
def Cr (r : Rw) (μ : Mm) : Prop := ∀ i, i < 6 → μ.1 3 i 1 = sz (r.1 i) ∧ ∀ j, j + 1 < r.1 i → μ.1 18 i j = r.2 i j
def Cx (r : Rw) (μ : Mm) : Prop := ∀ i, i < 4 → μ.1 8 i 1 = sz (r.1 i) ∧ ∀ j, j + 1 < r.1 i → μ.1 19 i j = r.2 i j
def Sh (H : Hs) (i : Nat) (μ : Mm) : Prop := μ.1 4 i 6 = nI (hn H) ∧ μ.1 4 i 5 = nI (hN H) ∧ ∀ h, h < hn H → μ.1 0 (5 * i + h) 0 = nI (hk H h) ∧ μ.1 0 (5 * i + h) 1 = nI (hw H h) ∧ μ.1 0 (5 * i + h) 2 = nI (ho H h)
def Sd (H : Hs) (c : Sc) (i : Nat) (μ : Mm) : Prop := μ.1 4 i 8 = nI (cD c) ∧ (∀ t, t < hN H → μ.1 20 i t = nI (cc c t)) ∧ ∀ j, j < cD c → μ.1 21 i j = sz (cd c j).1 ∧ μ.1 22 i j = sz (cd c j).2.1 ∧ μ.1 23 i j = nI (cd c j).2.2
def Dy (n : Nat) (s : Sv) (i : Nat) (μ : Mm) : Prop := μ.1 4 i 7 = nI (vt s) ∧ ∀ h, h < n → μ.1 0 (5 * i + h) 3 = nI (vo s h) ∧ μ.1 0 (5 * i + h) 4 = nI (vp s h) ∧ μ.1 0 (5 * i + h) 5 = bI (vb s h)
def Cs (H : Hs) (c : Sc) (μ : Mm) : Prop := Sh H 0 μ ∧ Sd H c 0 μ ∧ Dy (hn H) (cs H c) 0 μ
def Ck1 (H : Hs) (o : Option Sc) (k : Nat) (μ : Mm) : Prop := match o with
  | none => μ.1 4 (k + 1) 6 = 0
  | some c => Sh H (k + 1) μ ∧ Sd H c (k + 1) μ
def Ck (H : Hs) (ke : Nat → Option Sc) (μ : Mm) : Prop := ∀ k, k < 3 → Ck1 H (ke k) k μ
def RC (a : Ab) (μ : Mm) : Prop := Ct (aT a) μ ∧ Cr (aR a) μ ∧ Cx (aX a) μ ∧ Cs (aH a) (aC a) μ ∧ Ck (aH a) (aK a) μ
/-! the reference's -/
def Mt (T : Tl) (μ : Mm) : Prop := (∀ f, f < 6 → μ.1 26 0 f = T.1 f) ∧ μ.1 7 0 0 = T.2.1 ∧ μ.1 7 0 2 = T.2.2.1 ∧ μ.2 7 0 3 = T.2.2.2.1 ∧ μ.2 7 0 4 = T.2.2.2.2
def Mr (r : Rw) (μ : Mm) : Prop := ∀ i, i < 6 → μ.1 27 0 i = sz (r.1 i) ∧ ∀ j, j + 1 < r.1 i → μ.1 28 0 (40 * i + j) = r.2 i j
def Mx (r : Rw) (μ : Mm) : Prop := ∀ i, i < 4 → μ.1 30 0 i = sz (r.1 i) ∧ ∀ j, j + 1 < r.1 i → μ.1 31 0 (60 * i + j) = r.2 i j
def VM (n : Nat) (s : Sv) (f : Nat → Int32) : Prop := f 15 = nI (vt s) ∧ ∀ h, h < n → f h = nI (vo s h) ∧ f (5 + h) = nI (vp s h) ∧ f (10 + h) = bI (vb s h)
def Mh (H : Hs) (μ : Mm) : Prop := μ.1 7 0 10 = nI (hn H) ∧ μ.1 7 0 11 = nI (hN H) ∧ ∀ h, h < hn H → μ.1 32 0 h = nI (hk H h) ∧ μ.1 33 0 h = nI (hw H h)
def Md (H : Hs) (c : Sc) (μ : Mm) : Prop := μ.1 7 0 21 = nI (cD c) ∧ (∀ t, t < hN H → μ.1 34 0 t = nI (cc c t)) ∧ VM (hn H) (cs H c) (μ.1 37 0) ∧ ∀ i, i < cD c → VM (hn H) (sat H (cd c) i) (fun j => μ.1 38 0 (16 * i + j))
def Ms (H : Hs) (c : Sc) (μ : Mm) : Prop := Mh H μ ∧ Md H c μ
def Mk1 (H : Hs) (o : Option Sc) (k : Nat) (μ : Mm) : Prop := match o with
  | none => μ.1 39 0 k = 0
  | some c => μ.1 39 0 k = 1 ∧ μ.1 40 0 k = nI (cD c) ∧ (∀ t, t < hN H → μ.1 41 0 (8 * k + t) = nI (cc c t)) ∧ VM (hn H) (cs H c) (fun j => μ.1 42 0 (16 * k + j)) ∧ ∀ i, i < cD c → VM (hn H) (sat H (cd c) i) (fun j => μ.1 43 0 (960 * k + 16 * i + j))
def Mk (H : Hs) (ke : Nat → Option Sc) (μ : Mm) : Prop := ∀ k, k < 3 → Mk1 H (ke k) k μ
def RM (a : Ab) (μ : Mm) : Prop := Mt (aT a) μ ∧ Mr (aR a) μ ∧ Mx (aX a) μ ∧ Ms (aH a) (aC a) μ ∧ Mk (aH a) (aK a) μ
/-! they stay where their area is left alone -/
section FA
variable {L : Nat → Bool} {μ μ1 : Mm} {T : Tl} {r : Rw} {H : Hs} {c : Sc} {ke : Nat → Option Sc}
theorem Ct.fa (h : Ct T μ) (F : Fa L μ μ1) (hL : L 0 = false) : Ct T μ1 := ⟨fun f hf => F.it hL ((h.1 f hf)), F.it hL (h.2.1), F.it hL (h.2.2.1), F.lt hL (h.2.2.2.1), F.lt hL (h.2.2.2.2)⟩
theorem Cr.fa (h : Cr r μ) (F : Fa L μ μ1) (hL : L 1 = false) : Cr r μ1 := fun i hi => ⟨F.it hL ((h i hi).1), fun j hj => F.it hL (((h i hi).2 j hj))⟩
theorem Cx.fa (h : Cx r μ) (F : Fa L μ μ1) (hL : L 2 = false) : Cx r μ1 := fun i hi => ⟨F.it hL ((h i hi).1), fun j hj => F.it hL (((h i hi).2 j hj))⟩
theorem ar_h {h s : Nat} (hh : h < 5) : ar 0 (5 * 0 + h) s = 3 := by
  show (if 5 * 0 + h < 5 then 3 else _) = 3
  rw [if_pos (by omega)]
theorem ar_hk {k h s : Nat} (hk : k < 3) (hh : h < 5) : ar 0 (5 * (k + 1) + h) s = 4 := by
  show (if 5 * (k + 1) + h < 5 then 3 else if 5 * (k + 1) + h < 20 then 4 else 5) = 4
  rw [if_neg (by omega), if_pos (by omega)]
theorem ar_4 {k s : Nat} (hk : k < 3) : ar 4 (k + 1) s = 4 := by
  show (if k + 1 < 1 then 3 else if k + 1 < 4 then 4 else 5) = 4
  rw [if_neg (by omega), if_pos (by omega)]
theorem Cs.fa (h : Cs H c μ) (hH : HI H) (F : Fa L μ μ1) (hL : L 3 = false) : Cs H c μ1 := by
  have e : ∀ h s, h < hn H → L (ar 0 (5 * 0 + h) s) = false := fun h s hh => by rw [ar_h (Nat.lt_of_lt_of_le hh hH.1)]; exact hL
  obtain ⟨⟨h1, h2, h3⟩, ⟨h4, h5, h6⟩, h7, h8⟩ := h
  exact ⟨⟨F.it hL (h1), F.it hL (h2), fun h hh => ⟨F.it (e h 0 hh) ((h3 h hh).1), F.it (e h 1 hh) ((h3 h hh).2.1), F.it (e h 2 hh) ((h3 h hh).2.2)⟩⟩,
    ⟨F.it hL (h4), fun t ht => F.it hL ((h5 t ht)), fun j hj => ⟨F.it hL ((h6 j hj).1), F.it hL ((h6 j hj).2.1), F.it hL ((h6 j hj).2.2)⟩⟩,
    F.it hL (h7), fun h hh => ⟨F.it (e h 3 hh) ((h8 h hh).1), F.it (e h 4 hh) ((h8 h hh).2.1), F.it (e h 5 hh) ((h8 h hh).2.2)⟩⟩
theorem Ck.fa (h : Ck H ke μ) (hH : HI H) (F : Fa L μ μ1) (hL : L 4 = false) : Ck H ke μ1 := by
  intro k hk
  have h := h k hk
  have e : ∀ h s, h < hn H → L (ar 0 (5 * (k + 1) + h) s) = false := fun h s hh => by rw [ar_hk hk (Nat.lt_of_lt_of_le hh hH.1)]; exact hL
  have e4 : ∀ s, L (ar 4 (k + 1) s) = false := fun s => by rw [ar_4 hk]; exact hL
  have e20 : ∀ s, L (ar 20 (k + 1) s) = false := fun s => by rw [show ar 20 (k + 1) s = ar 4 (k + 1) s from rfl]; exact e4 s
  have e21 : ∀ s, L (ar 21 (k + 1) s) = false := fun s => by rw [show ar 21 (k + 1) s = ar 4 (k + 1) s from rfl]; exact e4 s
  have e22 : ∀ s, L (ar 22 (k + 1) s) = false := fun s => by rw [show ar 22 (k + 1) s = ar 4 (k + 1) s from rfl]; exact e4 s
  have e23 : ∀ s, L (ar 23 (k + 1) s) = false := fun s => by rw [show ar 23 (k + 1) s = ar 4 (k + 1) s from rfl]; exact e4 s
  unfold Ck1 at h ⊢
  revert h
  cases ke k with
  | none =>
    intro h
    exact F.it (e4 6) h
  | some c =>
    intro h
    obtain ⟨⟨h1, h2, h3⟩, ⟨h4, h5, h6⟩⟩ := h
    exact ⟨⟨F.it (e4 6) (h1), F.it (e4 5) (h2), fun h hh => ⟨F.it (e h 0 hh) ((h3 h hh).1), F.it (e h 1 hh) ((h3 h hh).2.1), F.it (e h 2 hh) ((h3 h hh).2.2)⟩⟩,
      ⟨F.it (e4 8) (h4), fun t ht => F.it (e20 t) ((h5 t ht)), fun j hj => ⟨F.it (e21 j) ((h6 j hj).1), F.it (e22 j) ((h6 j hj).2.1), F.it (e23 j) ((h6 j hj).2.2)⟩⟩⟩
theorem Mt.fa (h : Mt T μ) (F : Fa L μ μ1) (hL : L 6 = false) : Mt T μ1 := ⟨fun f hf => F.it hL ((h.1 f hf)), F.it hL (h.2.1), F.it hL (h.2.2.1), F.lt hL (h.2.2.2.1), F.lt hL (h.2.2.2.2)⟩
theorem Mr.fa (h : Mr r μ) (F : Fa L μ μ1) (hL : L 7 = false) : Mr r μ1 := fun i hi => ⟨F.it hL ((h i hi).1), fun j hj => F.it hL (((h i hi).2 j hj))⟩
theorem Mx.fa (h : Mx r μ) (F : Fa L μ μ1) (hL : L 8 = false) : Mx r μ1 := fun i hi => ⟨F.it hL ((h i hi).1), fun j hj => F.it hL (((h i hi).2 j hj))⟩
theorem VM.to {n : Nat} {s : Sv} {f g : Nat → Int32} (h : VM n s f) (e : ∀ j, g j = f j) : VM n s g := ⟨(e 15).trans h.1, fun x hx => ⟨(e _).trans (h.2 x hx).1, (e _).trans (h.2 x hx).2.1, (e _).trans (h.2 x hx).2.2⟩⟩
theorem Ms.fa (h : Ms H c μ) (F : Fa L μ μ1) (hL : L 9 = false) : Ms H c μ1 := by
  obtain ⟨⟨h1, h2, h3⟩, h4, h5, h6, h7⟩ := h
  exact ⟨⟨F.it hL (h1), F.it hL (h2), fun h hh => ⟨F.it hL ((h3 h hh).1), F.it hL ((h3 h hh).2)⟩⟩, F.it hL (h4), fun t ht => F.it hL ((h5 t ht)), h6.to fun j => F.i hL, fun i hi => (h7 i hi).to fun j => F.i hL⟩
theorem Mk.fa (h : Mk H ke μ) (F : Fa L μ μ1) (hL : L 10 = false) : Mk H ke μ1 := by
  intro k hk
  have h := h k hk
  unfold Mk1 at h ⊢
  revert h
  cases ke k with
  | none =>
    intro h
    exact F.it hL h
  | some c =>
    intro h
    obtain ⟨h1, h2, h3, h4, h5⟩ := h
    exact ⟨F.it hL (h1), F.it hL (h2), fun t ht => F.it hL ((h3 t ht)), h4.to fun j => F.i hL, fun i hi => (h5 i hi).to fun j => F.i hL⟩
end FA
theorem RC.fa {L : Nat → Bool} {μ μ1 : Mm} {a : Ab} (h : RC a μ) (hA : AI a) (F : Fa L μ μ1) (hL : ∀ x, x < 5 → L x = false) : RC a μ1 := ⟨h.1.fa F (hL 0 (by decide)), h.2.1.fa F (hL 1 (by decide)), h.2.2.1.fa F (hL 2 (by decide)), h.2.2.2.1.fa hA.2.2.1 F (hL 3 (by decide)), h.2.2.2.2.fa hA.2.2.1 F (hL 4 (by decide))⟩
theorem RM.fa {L : Nat → Bool} {μ μ1 : Mm} {a : Ab} (h : RM a μ) (F : Fa L μ μ1) (hL : ∀ x, 6 ≤ x → x < 11 → L x = false) : RM a μ1 := ⟨h.1.fa F (hL 6 (by decide) (by decide)), h.2.1.fa F (hL 7 (by decide) (by decide)), h.2.2.1.fa F (hL 8 (by decide) (by decide)), h.2.2.2.1.fa F (hL 9 (by decide) (by decide)), h.2.2.2.2.fa F (hL 10 (by decide) (by decide))⟩
/-- what is handed on from call to call -/
def Ok (G : Ge) (μ : Mm) : Prop := ∃ a, AI a ∧ RC a μ ∧ RM a μ
/-- both answer alike, and go on alike -/
def Two (G : Ge) (M M' : MS) (as as' : List Vl) : Prop := ∀ (μ : Mm) (L : Int32 → Int32 → Mm → Prop), Ok G μ → (∀ v μ1, Ok G μ1 → L v v μ1) → CS G M as μ (RI fun v1 μ1 => CS G M' as' μ1 (RI fun v2 μ2 => L v1 v2 μ2))
def Two8 (G : Ge) (M M' : MS) (as as' : List Vl) : Prop := ∀ (μ : Mm) (L : Int64 → Int64 → Mm → Prop), Ok G μ → (∀ v μ1, Ok G μ1 → L v v μ1) → CS G M as μ (RL fun v1 μ1 => CS G M' as' μ1 (RL fun v2 μ2 => L v1 v2 μ2))
