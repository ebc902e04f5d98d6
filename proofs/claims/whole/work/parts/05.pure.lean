/-! ===== pure words of the walks: a program in Option, its loops by 'iter' ===== -/
/-- an index that lies in a row of n places -/
def inb (i : Int32) (n : Nat) : Bool := decide (¬ (i < 0 ∨ n ≤ i.toNatClampNeg))
theorem inb_in {i : Int32} {n : Nat} (h : inb i n = true) : vp_in i n := of_decide_eq_true (p := ¬ (i < 0 ∨ n ≤ i.toNatClampNeg)) h
/-- a number that is a boolean, a char -/
def isB (v : Int32) : Bool := decide (v = 0 ∨ v = 1)
def isC (v : Int32) : Bool := decide (narrow .char (.int v) = .int v)
def grd {α : Type} (b : Bool) (k : Option α) : Option α := match b with
  | true => k
  | false => none
theorem grd_some {α : Type} {b : Bool} {k : Option α} {r : α} (h : grd b k = some r) : b = true ∧ k = some r := by
  cases b with
  | true => exact ⟨rfl, h⟩
  | false => cases h
def bnd {α β : Type} (x : Option α) (k : α → Option β) : Option β := match x with
  | some a => k a
  | none => none
theorem bnd_some {α β : Type} {x : Option α} {k : α → Option β} {r : β} (h : bnd x k = some r) : ∃ a, x = some a ∧ k a = some r := by
  cases x with
  | some a => exact ⟨a, rfl, h⟩
  | none => cases h
theorem bnd_name {α β : Type} {x : Option α} {k : α → Option β} {r : β} (h : bnd x k = some r) : ∃ (j : α → Option β) (a : α), j = k ∧ x = some a ∧ j a = some r := by
  obtain ⟨a, h1, h2⟩ := bnd_some h
  exact ⟨k, a, rfl, h1, h2⟩
def jn {α β : Type} (k : α) (f : α → β) : β := f k
theorem jn_name {α β : Type} {k : α} {f : α → β} {r : β} (h : jn k f = r) : ∃ j, j = k ∧ f j = r := ⟨k, rfl, h⟩
theorem app_of {α β : Type} {k k' : α → β} (hk : k = k') {v : α} {r : β} (h : k v = r) : k' v = r := hk ▸ h
theorem ite_t {α : Type} {c : Prop} [Decidable c] {a b r : α} (hc : c) (h : (if c then a else b) = r) : a = r := by rw [if_pos hc] at h; exact h
theorem ite_f {α : Type} {c : Prop} [Decidable c] {a b r : α} (hc : ¬ c) (h : (if c then a else b) = r) : b = r := by rw [if_neg hc] at h; exact h
def cas {α β γ : Type} (e : α ⊕ β) (k1 : α → γ) (k2 : β → γ) : γ := match e with
  | .inl a => k1 a
  | .inr b => k2 b
theorem cas_l {α β γ : Type} {a : α} {k1 : α → γ} {k2 : β → γ} {r : γ} (h : cas (.inl a) k1 k2 = r) : k1 a = r := h
theorem cas_r {α β γ : Type} {b : β} {k1 : α → γ} {k2 : β → γ} {r : γ} (h : cas (.inr b) k1 k2 = r) : k2 b = r := h
def iter {σ ρ : Type} (b : σ → Option (σ ⊕ ρ)) : Nat → σ → Option ρ
  | 0, _ => none
  | n + 1, x => match b x with
    | none => none
    | some (.inl y) => iter b n y
    | some (.inr r) => some r
theorem iter_zero {σ ρ : Type} {b : σ → Option (σ ⊕ ρ)} {x : σ} {e : ρ} (h : iter b 0 x = some e) : False := by cases h
theorem iter_split {σ ρ : Type} {b : σ → Option (σ ⊕ ρ)} {n : Nat} {x : σ} {e : ρ} (h : iter b (n + 1) x = some e) : ∃ z, b x = some z ∧ (∀ y, z = .inl y → iter b n y = some e) ∧ (∀ r, z = .inr r → r = e) := by
  unfold iter at h
  cases hb : b x with
  | none => rw [hb] at h; cases h
  | some z =>
    rw [hb] at h
    cases z with
    | inl y => exact ⟨_, rfl, fun y' e' => (by cases e'; exact h), fun r e' => (by cases e')⟩
    | inr r => exact ⟨_, rfl, fun y' e' => (by cases e'), fun r' e' => (by cases e'; exact Option.some.inj h)⟩
theorem eq_some_app {α β : Type} {k : α → Option β} {v w : α} {r : β} (e : v = w) (h : k w = some r) : k v = some r := e ▸ h
def xiushr (x y : Int32) : Int32 := (x.toUInt32 >>> (y.toUInt32 &&& Int32.toUInt32 31)).toInt32
def xlushr (x : Int64) (y : Int32) : Int64 := (x.toUInt64 >>> (y.toInt64.toUInt64 &&& Int64.toUInt64 63)).toInt64
def xlshl (x : Int64) (y : Int32) : Int64 := x <<< (y.toInt64 &&& 63)
def xlshr (x : Int64) (y : Int32) : Int64 := x >>> (y.toInt64 &&& 63)
def xi2c (x : Int32) : Int32 := (x.toUInt32 % 65536).toInt32
theorem isB_n {v : Int32} (h : isB v = true) : narrow .boolean (.int v) = .int v := by
  rcases of_decide_eq_true h with e | e <;> rw [e] <;> rfl
theorem isB_f {v : Int32} (h : isB v = true) : fits .boolean (.int v) = true := by
  rcases of_decide_eq_true h with e | e <;> rw [e] <;> rfl
theorem nz_Z0 : narrow .boolean (.int 0) = .int 0 := by decide
theorem nz_Z1 : narrow .boolean (.int 1) = .int 1 := by decide
theorem nz_C0 : narrow .char (.int 0) = .int 0 := by decide
def oc {α β : Type} (u : Option α) (kn : β) (ks : α → β) : β := match u with
  | none => kn
  | some a => ks a
/-- Arrays.fill(int[], int) -/
def fillA (f : Nat → Int32) (n : Nat) (v : Int32) : Nat → Int32 := fun j => if j < n then v else f j
abbrev T0 : Type := (Nat → Int32) × (Nat → Int32) × (Nat → Int32) × (Nat → Int32) × (Nat → Int32) × (Nat → Int64) × (Nat → Int64) × (Nat → Int64) × (Nat → Int64) × (Nat → Int32) × (Nat → Int32) × Int32
abbrev T1 : Type := (Nat → Int32) × (Nat → Int32)
abbrev T2 : Type := (Nat → Int32) × (Nat → Int32) × (Nat → Int32) × (Nat → Int32) × Int32 × Int32
abbrev T3 : Type := (Nat → Int32) × (Nat → Int32) × (Nat → Int32) × (Nat → Int32) × (Nat → Int32) × (Nat → Int64) × (Nat → Int32) × Int32 × Int32
abbrev T4 : Type := (Nat → Int32) × Int32
abbrev T5 : Type := Unit
abbrev T6 : Type := (Int32 × (Nat → Int32) × (Nat → Int32) × (Nat → Int32) × Int32) × (Int32 × (Nat → Int32) × (Nat → Int64) × (Nat → Int64) × (Nat → Int32) × (Nat → Int32) × (Nat → Int32) × (Nat → Int32) × (Nat → Int32)) × (Int32 × (Nat → Int32) × (Nat → Int32) × (Nat → Int64) × (Nat → Int64) × (Nat → Int64) × (Nat → Int64) × (Nat → Int32)) × (Int32 × Int32 × Int32 × Int32 × Int32 × (Nat → Int32) × (Nat → Int32)) × ((Nat → Int32) × Int32 × Int32 × Int32)
abbrev T50 : Type := Nat → Int64
abbrev nJ : Nat := 19
def lenJ : List Nat := [20, 30, 36, 30, 28, 28, 22, 29, 21, 5, 6, 6, 5, 5, 6, 4, 5, 4, 5]
def bytJ : List (List Int32) := [[116, 104, 101, 114, 101, 32, 105, 115, 32, 110, 111, 32, 115, 117, 99, 104, 32, 112, 105, 110], [116, 104, 101, 114, 101, 32, 105, 115, 32, 110, 111, 32, 115, 117, 99, 104, 32, 99, 108, 111, 99, 107, 32, 111, 114, 32, 119, 104, 97, 116], [116, 104, 101, 114, 101, 32, 105, 115, 32, 110, 111, 32, 115, 117, 99, 104, 32, 99, 108, 111, 99, 107, 44, 32, 101, 100, 103, 101, 32, 111, 114, 32, 112, 97, 114, 116], [116, 104, 101, 114, 101, 32, 105, 115, 32, 110, 111, 32, 115, 117, 99, 104, 32, 99, 108, 111, 99, 107, 32, 111, 114, 32, 112, 97, 114, 116], [116, 104, 101, 114, 101, 32, 105, 115, 32, 110, 111, 32, 115, 117, 99, 104, 32, 114, 111, 119, 32, 111, 114, 32, 119, 104, 97, 116], [116, 104, 101, 114, 101, 32, 105, 115, 32, 110, 111, 32, 115, 117, 99, 104, 32, 112, 105, 110, 32, 111, 114, 32, 119, 104, 97, 116], [116, 104, 101, 114, 101, 32, 105, 115, 32, 110, 111, 32, 115, 117, 99, 104, 32, 112, 108, 97, 99, 101], [116, 104, 101, 114, 101, 32, 105, 115, 32, 110, 111, 32, 115, 117, 99, 104, 32, 112, 108, 97, 99, 101, 32, 111, 114, 32, 114, 111, 119], [116, 104, 101, 114, 101, 32, 105, 115, 32, 110, 111, 32, 115, 117, 99, 104, 32, 119, 104, 97, 116], [99, 108, 111, 99, 107], [100, 101, 114, 105, 118, 101], [116, 117, 114, 110, 101, 100], [97, 112, 97, 114, 116], [102, 97, 108, 115, 101], [99, 121, 99, 108, 101, 115], [109, 111, 115, 116], [108, 101, 97, 115, 116], [108, 111, 97, 100], [115, 108, 111, 112, 101]]
def idxJ : List Nat := [54, 91, 111, 117, 132, 140, 145, 151, 168, 176, 178, 180, 182, 184, 186, 188, 190, 192, 194]
def txJ : List String := ["there is no such pin", "there is no such clock or what", "there is no such clock, edge or part", "there is no such clock or part", "there is no such row or what", "there is no such pin or what", "there is no such place", "there is no such place or row", "there is no such what", "clock", "derive", "turned", "apart", "false", "cycles", "most", "least", "load", "slope"]
def sLen (i : Nat) : Int32 := Int32.ofNat (lenJ.getD i 0)
def sCh (i : Nat) (k : Int32) : Int32 := ((bytJ.getD i []).getD k.toNatClampNeg 0) &&& 255
