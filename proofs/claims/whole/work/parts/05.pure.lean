/-! ===== pure words of the walks: a program in Option, its loops by 'iter' ===== -/
/-- an index that lies in a row of n places -/
def inb (i : Int32) (n : Nat) : Bool := decide (¬ (i < 0 ∨ n ≤ i.toNatClampNeg))
theorem inb_in {i : Int32} {n : Nat} (h : inb i n = true) : vp_in i n := of_decide_eq_true (p := ¬ (i < 0 ∨ n ≤ i.toNatClampNeg)) h
/-- a number that is a boolean, a char -/
def isB (v : Int32) : Bool := decide (v = 0 ∨ v = 1)
def isC (v : Int32) : Bool := decide (narrow .char (.int v) = .int v)
def grd {α : Type} (b : Bool) (k : Option α) : Option α := match b with
  | true => k
  | false => none
theorem grd_some {α : Type} {b : Bool} {k : Option α} {r : α} (h : grd b k = some r) : b = true ∧ k = some r := by
  cases b with
  | true => exact ⟨rfl, h⟩
  | false => cases h
def bnd {α β : Type} (x : Option α) (k : α → Option β) : Option β := match x with
  | some a => k a
  | none => none
theorem bnd_some {α β : Type} {x : Option α} {k : α → Option β} {r : β} (h : bnd x k = some r) : ∃ a, x = some a ∧ k a = some r := by
  cases x with
  | some a => exact ⟨a, rfl, h⟩
  | none => cases h
theorem bnd_name {α β : Type} {x : Option α} {k : α → Option β} {r : β} (h : bnd x k = some r) : ∃ (j : α → Option β) (a : α), j = k ∧ x = some a ∧ j a = some r := by
  obtain ⟨a, h1, h2⟩ := bnd_some h
  exact ⟨k, a, rfl, h1, h2⟩
def jn {α β : Type} (k : α) (f : α → β) : β := f k
theorem jn_name {α β : Type} {k : α} {f : α → β} {r : β} (h : jn k f = r) : ∃ j, j = k ∧ f j = r := ⟨k, rfl, h⟩
theorem app_of {α β : Type} {k k' : α → β} (hk : k = k') {v : α} {r : β} (h : k v = r) : k' v = r := hk ▸ h
theorem ite_t {α : Type} {c : Prop} [Decidable c] {a b r : α} (hc : c) (h : (if c then a else b) = r) : a = r := by rw [if_pos hc] at h; exact h
theorem ite_f {α : Type} {c : Prop} [Decidable c] {a b r : α} (hc : ¬ c) (h : (if c then a else b) = r) : b = r := by rw [if_neg hc] at h; exact h
def cas {α β γ : Type} (e : α ⊕ β) (k1 : α → γ) (k2 : β → γ) : γ := match e with
  | .inl a => k1 a
  | .inr b => k2 b
theorem cas_l {α β γ : Type} {a : α} {k1 : α → γ} {k2 : β → γ} {r : γ} (h : cas (.inl a) k1 k2 = r) : k1 a = r := h
theorem cas_r {α β γ : Type} {b : β} {k1 : α → γ} {k2 : β → γ} {r : γ} (h : cas (.inr b) k1 k2 = r) : k2 b = r := h
def iter {σ ρ : Type} (b : σ → Option (σ ⊕ ρ)) : Nat → σ → Option ρ
  | 0, _ => none
  | n + 1, x => match b x with
    | none => none
    | some (.inl y) => iter b n y
    | some (.inr r) => some r
theorem iter_zero {σ ρ : Type} {b : σ → Option (σ ⊕ ρ)} {x : σ} {e : ρ} (h : iter b 0 x = some e) : False := by cases h
theorem iter_split {σ ρ : Type} {b : σ → Option (σ ⊕ ρ)} {n : Nat} {x : σ} {e : ρ} (h : iter b (n + 1) x = some e) : ∃ z, b x = some z ∧ (∀ y, z = .inl y → iter b n y = some e) ∧ (∀ r, z = .inr r → r = e) := by
  unfold iter at h
  cases hb : b x with
  | none => rw [hb] at h; cases h
  | some z =>
    rw [hb] at h
    cases z with
    | inl y => exact ⟨_, rfl, fun y' e' => (by cases e'; exact h), fun r e' => (by cases e')⟩
    | inr r => exact ⟨_, rfl, fun y' e' => (by cases e'), fun r' e' => (by cases e'; exact Option.some.inj h)⟩
theorem eq_some_app {α β : Type} {k : α → Option β} {v w : α} {r : β} (e : v = w) (h : k w = some r) : k v = some r := e ▸ h
def xiushr (x y : Int32) : Int32 := (x.toUInt32 >>> (y.toUInt32 &&& Int32.toUInt32 31)).toInt32
def xlushr (x : Int64) (y : Int32) : Int64 := (x.toUInt64 >>> (y.toInt64.toUInt64 &&& Int64.toUInt64 63)).toInt64
def xlshl (x : Int64) (y : Int32) : Int64 := x <<< (y.toInt64 &&& 63)
def xlshr (x : Int64) (y : Int32) : Int64 := x >>> (y.toInt64 &&& 63)
def xi2c (x : Int32) : Int32 := (x.toUInt32 % 65536).toInt32
theorem isB_n {v : Int32} (h : isB v = true) : narrow .boolean (.int v) = .int v := by
  rcases of_decide_eq_true h with e | e <;> rw [e] <;> rfl
theorem isB_f {v : Int32} (h : isB v = true) : fits .boolean (.int v) = true := by
  rcases of_decide_eq_true h with e | e <;> rw [e] <;> rfl
theorem nz_Z0 : narrow .boolean (.int 0) = .int 0 := by decide
theorem nz_Z1 : narrow .boolean (.int 1) = .int 1 := by decide
theorem nz_C0 : narrow .char (.int 0) = .int 0 := by decide
