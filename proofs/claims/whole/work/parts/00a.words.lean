/-! memories: a component's cells hold ints; cell, then slot -/
abbrev Mem : Type := Nat → Nat → Int32
abbrev Lem : Type := Nat → Nat → Int64
def ups (m : Mem) (k : Nat) (f : Nat → Int32) : Mem := fun a => cond (Nat.beq a k) f (m a)
def upb (f : Nat → Int32) (i : Nat) (v : Int32) : Nat → Int32 := fun j => cond (Nat.beq j i) v (f j)
def upf (m : Mem) (i : Nat) (v : Int32) : Mem := ups m 0 (upb (m 0) i v)
def upi (m : Mem) (k i : Nat) (v : Int32) : Mem := ups m k (upd (m k) i v)
def upsL (m : Lem) (k : Nat) (f : Nat → Int64) : Lem := fun a => cond (Nat.beq a k) f (m a)
def upbL (f : Nat → Int64) (i : Nat) (v : Int64) : Nat → Int64 := fun j => cond (Nat.beq j i) v (f j)
def upfL (m : Lem) (i : Nat) (v : Int64) : Lem := upsL m 0 (upbL (m 0) i v)
def upiL (m : Lem) (k i : Nat) (v : Int64) : Lem := upsL m k (vp_updL (m k) i v)
/-! the words of the mirrors -/
def inR (i : Int32) (n : Nat) : Bool := decide (¬ (i < 0 ∨ n ≤ i.toNatClampNeg))
def gi {α : Type} (i : Int32) (n : Nat) (k : Option α) : Option α := cond (inR i n) k none
def gz {α : Type} (y : Int32) (k : Option α) : Option α := if y = 0 then none else k
def gzl {α : Type} (y : Int64) (k : Option α) : Option α := if y = 0 then none else k
def gb {α : Type} (v : Int32) (k : Option α) : Option α := if v = 0 ∨ v = 1 then k else none
def nm {α β : Type} (v : α) (k : α → β) : β := k v
def bn {α β : Type} (o : Option α) (k : α → Option β) : Option β := o.bind k
def itr {σ ρ : Type} (B : σ → Option (σ ⊕ ρ)) : Nat → σ → Option ρ
  | 0, _ => none
  | n + 1, s => bn (B s) (fun o => Sum.elim (fun s' => itr B n s') (fun r => some r) o)
noncomputable def FU : Nat := Classical.choose (⟨1000, rfl⟩ : ∃ n : Nat, n = 1000)
theorem FU_eq : FU = 1000 := Classical.choose_spec (⟨1000, rfl⟩ : ∃ n : Nat, n = 1000)
theorem inR_iff {i : Int32} {n : Nat} : inR i n = true ↔ vp_in i n := by unfold inR vp_in; simp
theorem gi_some {α : Type} {i : Int32} {n : Nat} {k : Option α} {r : α} (h : gi i n k = some r) : vp_in i n ∧ k = some r := by
  unfold gi at h
  cases hb : inR i n with
  | true => rw [hb] at h; exact ⟨inR_iff.mp hb, h⟩
  | false => rw [hb] at h; cases h
theorem gz_some {α : Type} {y : Int32} {k : Option α} {r : α} (h : gz y k = some r) : ¬ y = 0 ∧ k = some r := by
  unfold gz at h
  by_cases hy : y = 0
  · rw [if_pos hy] at h; cases h
  · rw [if_neg hy] at h; exact ⟨hy, h⟩
theorem gzl_some {α : Type} {y : Int64} {k : Option α} {r : α} (h : gzl y k = some r) : ¬ y = 0 ∧ k = some r := by
  unfold gzl at h
  by_cases hy : y = 0
  · rw [if_pos hy] at h; cases h
  · rw [if_neg hy] at h; exact ⟨hy, h⟩
theorem gb_some {α : Type} {v : Int32} {k : Option α} {r : α} (h : gb v k = some r) : narrow .boolean (.int v) = .int v ∧ k = some r := by
  unfold gb at h
  by_cases hy : v = 0 ∨ v = 1
  · rw [if_pos hy] at h
    refine ⟨?_, h⟩
    rcases hy with rfl | rfl <;> decide
  · rw [if_neg hy] at h; cases h
theorem nm_at {α β : Type} {e y : α} {K : α → β} {r : β} (h : y = e) (hM : nm e K = r) : K y = r := by subst h; exact hM
theorem bn_some {α β : Type} {o : Option α} {k : α → Option β} {r : β} (h : bn o k = some r) : ∃ a, o = some a ∧ k a = some r := by
  cases o with
  | none => cases h
  | some a => exact ⟨a, rfl, h⟩
theorem it_p {α : Type} {c : Prop} [Decidable c] {A B r : α} (h : c) (hM : (if c then A else B) = r) : A = r := by rw [if_pos h] at hM; exact hM
theorem it_n {α : Type} {c : Prop} [Decidable c] {A B r : α} (h : ¬ c) (hM : (if c then A else B) = r) : B = r := by rw [if_neg h] at hM; exact hM
theorem it_nn {α : Type} {c : Prop} [Decidable c] {A B r : α} (h : c) (hM : (if ¬ c then A else B) = r) : B = r := by rw [if_neg (fun q => q h)] at hM; exact hM
theorem el_l {α β γ : Type} {f : α → γ} {g : β → γ} {x : α ⊕ β} {a : α} {r : γ} (e : x = Sum.inl a) (h : Sum.elim f g x = r) : f a = r := by subst e; exact h
theorem el_r {α β γ : Type} {f : α → γ} {g : β → γ} {x : α ⊕ β} {b : β} {r : γ} (e : x = Sum.inr b) (h : Sum.elim f g x = r) : g b = r := by subst e; exact h
theorem itr_zero {σ ρ : Type} {B : σ → Option (σ ⊕ ρ)} {s : σ} {r : ρ} (h : itr B 0 s = some r) : False := by cases h
theorem itr_succ {σ ρ : Type} {B : σ → Option (σ ⊕ ρ)} {n : Nat} {s : σ} {r : ρ} (h : itr B (n + 1) s = some r) : ∃ o, B s = some o ∧ (∀ s', o = Sum.inl s' → itr B n s' = some r) ∧ (∀ r', o = Sum.inr r' → r' = r) := by
  obtain ⟨o, h1, h2⟩ := bn_some (show bn (B s) _ = some r from h)
  refine ⟨o, h1, fun s' e => ?_, fun r' e => ?_⟩
  · subst e; exact h2
  · subst e; exact Option.some.inj h2
theorem som {α : Type} {a b : α} (h : some a = some b) : b = a := (Option.some.inj h).symm
theorem ne_toInt {x y : Int32} (h : ¬ x = y) : x.toInt ≠ y.toInt := fun e => h (Int32.toInt_inj.mp e)
/-! what the start gives and nobody writes: eleven text constants, two tables, two statics, one nest link -/
def txS : List String := ["moon", "strike", "wait", "sort", "spare", "turn", "loan", "pledge", "sale", "gift", "purse"]
def lenS : List Nat := [4, 6, 4, 4, 5, 4, 4, 6, 4, 4, 5]
def bytS : List (List Int32) := [[109, 111, 111, 110], [115, 116, 114, 105, 107, 101], [119, 97, 105, 116], [115, 111, 114, 116], [115, 112, 97, 114, 101], [116, 117, 114, 110], [108, 111, 97, 110], [112, 108, 101, 100, 103, 101], [115, 97, 108, 101], [103, 105, 102, 116], [112, 117, 114, 115, 101]]
def ixR : List Nat := [75, 84, 89, 94, 99, 104, 178, 180, 182, 184, 186]
def ixO : List Nat := [153, 155, 157, 159, 161, 163, 136, 142, 144, 146, 148]
def slen (w : Nat) : Int32 := Int32.ofNat (lenS.getD w 0)
def sch (w k : Nat) : Int32 := ((((bytS.getD w []).getD k 0) &&& 255).toUInt32 % 65536).toInt32
def tabL : Nat → Int32 := fun k => [1, 0, 0, 1, 0, 0].getD k 0
def tabM : Nat → Int32 := fun k => [50, 99, 99, 60, 99, 16].getD k 0
def gs {α : Type} (w : Nat) (k : Option α) : Option α := if w < 11 then k else none
theorem gs_some {α : Type} {w : Nat} {k : Option α} {r : α} (h : gs w k = some r) : w < 11 ∧ k = some r := by
  unfold gs at h
  by_cases hy : w < 11
  · rw [if_pos hy] at h; exact ⟨hy, h⟩
  · rw [if_neg hy] at h; cases h
