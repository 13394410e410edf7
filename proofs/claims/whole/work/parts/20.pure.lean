/-! pure tools: what a mirror answers, alone (HT) and two side by side (RT) -/
def HT {α : Type} (o : Option α) (P : α → Prop) : Prop := ∃ a, o = some a ∧ P a
def RT {α β : Type} (o : Option α) (o' : Option β) (P : α → β → Prop) : Prop := ∃ a b, o = some a ∧ o' = some b ∧ P a b
theorem gi_t {α : Type} {i : Int32} {n : Nat} {k : Option α} (h : vp_in i n) : gi i n k = k := by unfold gi; rw [inR_iff.mpr h]; rfl
theorem gi_n {α : Type} {j n : Nat} {k : Option α} (h : j < n) (hn : n < 2 ^ 31) : gi (nI j) n k = k := gi_t (vp_in_nI h hn)
theorem gz_t {α : Type} {y : Int32} {k : Option α} (h : ¬ y = 0) : gz y k = k := if_neg h
theorem gzl_t {α : Type} {y : Int64} {k : Option α} (h : ¬ y = 0) : gzl y k = k := if_neg h
theorem gb_0 {α : Type} {k : Option α} : gb 0 k = k := if_pos (Or.inl rfl)
theorem gb_1 {α : Type} {k : Option α} : gb 1 k = k := if_pos (Or.inr rfl)
theorem gb_t {α : Type} {v : Int32} {k : Option α} (h : v = 0 ∨ v = 1) : gb v k = k := if_pos h
theorem gs_t {α : Type} {w : Nat} {k : Option α} (h : w < 11) : gs w k = k := if_pos h
theorem bn_s {α β : Type} {a : α} {k : α → Option β} : bn (some a) k = k a := rfl
theorem nm_d {α β : Type} {e : α} {k : α → β} : nm e k = k e := rfl
theorem HT_s {α : Type} {a : α} {P : α → Prop} (h : P a) : HT (some a) P := ⟨a, rfl, h⟩
theorem HT_b {α β : Type} {o : Option α} {k : α → Option β} {Q : α → Prop} {P : β → Prop} (h : HT o Q) (hk : ∀ a, Q a → HT (k a) P) : HT (bn o k) P := by
  obtain ⟨a, rfl, ha⟩ := h
  exact hk a ha
theorem HT_m {α : Type} {o : Option α} {P Q : α → Prop} (h : HT o P) (hk : ∀ a, P a → Q a) : HT o Q := by
  obtain ⟨a, e, ha⟩ := h
  exact ⟨a, e, hk a ha⟩
theorem RT_s {α β : Type} {a : α} {b : β} {P : α → β → Prop} (h : P a b) : RT (some a) (some b) P := ⟨a, b, rfl, rfl, h⟩
theorem RT_b {α α' β β' : Type} {o : Option α} {o' : Option α'} {k : α → Option β} {k' : α' → Option β'} {Q : α → α' → Prop} {P : β → β' → Prop} (h : RT o o' Q) (hk : ∀ a b, Q a b → RT (k a) (k' b) P) : RT (bn o k) (bn o' k') P := by
  obtain ⟨a, b, rfl, rfl, ha⟩ := h
  exact hk a b ha
theorem RT_l {α β β' : Type} {o : Option α} {k : α → Option β} {o' : Option β'} {Q : α → Prop} {P : β → β' → Prop} (h : HT o Q) (hk : ∀ a, Q a → RT (k a) o' P) : RT (bn o k) o' P := by
  obtain ⟨a, rfl, ha⟩ := h
  exact hk a ha
theorem RT_r {α β β' : Type} {o : Option β} {o' : Option α} {k' : α → Option β'} {Q : α → Prop} {P : β → β' → Prop} (h : HT o' Q) (hk : ∀ a, Q a → RT o (k' a) P) : RT o (bn o' k') P := by
  obtain ⟨a, rfl, ha⟩ := h
  exact hk a ha
theorem RT_m {α β : Type} {o : Option α} {o' : Option β} {P Q : α → β → Prop} (h : RT o o' P) (hk : ∀ a b, P a b → Q a b) : RT o o' Q := by
  obtain ⟨a, b, e, e', ha⟩ := h
  exact ⟨a, b, e, e', hk a b ha⟩
theorem RT_if {α β : Type} {c c' : Prop} [Decidable c] [Decidable c'] {A B : Option α} {A' B' : Option β} {P : α → β → Prop} (h : c ↔ c') (h1 : c → RT A A' P) (h2 : ¬ c → RT B B' P) : RT (if c then A else B) (if c' then A' else B') P := by
  by_cases hc : c
  · rw [if_pos hc, if_pos (h.mp hc)]; exact h1 hc
  · rw [if_neg hc, if_neg (fun q => hc (h.mpr q))]; exact h2 hc
theorem RT_hl {α β : Type} {o : Option α} {o' : Option β} {P : α → β → Prop} {a : α} (h : o = some a) (h' : HT o' (P a)) : RT o o' P := by
  obtain ⟨b, e, hb⟩ := h'
  exact ⟨a, b, h, e, hb⟩
theorem FU_gt {n : Nat} (h : n < 1000) : n < FU := by rw [FU_eq]; exact h
/-- a loop of one side: the measure n falls -/
theorem HT_itr {σ ρ : Type} {B : σ → Option (σ ⊕ ρ)} {P : ρ → Prop} (I : Nat → σ → Prop) (h : ∀ n s, I n s → HT (B s) (fun o => Sum.elim (fun s' => ∃ n', n' < n ∧ I n' s') P o)) : ∀ (N n : Nat) (s : σ), I n s → n < N → HT (itr B N s) P := by
  intro N
  induction N with
  | zero => intro n s _ hn; exact absurd hn (Nat.not_lt_zero n)
  | succ N ih =>
    intro n s hI hn
    obtain ⟨o, ho, hp⟩ := h n s hI
    show HT (bn (B s) _) P
    rw [ho, bn_s]
    cases o with
    | inl s' =>
      obtain ⟨n', h1, h2⟩ := hp
      exact ih n' s' h2 (by omega)
    | inr r => exact ⟨r, rfl, hp⟩
def LK {σ τ ρ ρ' : Type} (J : σ → τ → Prop) (P : ρ → ρ' → Prop) (o : σ ⊕ ρ) (o' : τ ⊕ ρ') : Prop := match o, o' with
  | .inl s, .inl t => J s t
  | .inr r, .inr r' => P r r'
  | _, _ => False
/-- two loops in step -/
theorem RT_itr {σ τ ρ ρ' : Type} {B : σ → Option (σ ⊕ ρ)} {C : τ → Option (τ ⊕ ρ')} {P : ρ → ρ' → Prop} (I : Nat → σ → τ → Prop) (h : ∀ n s t, I n s t → RT (B s) (C t) (LK (fun s' t' => ∃ n', n' < n ∧ I n' s' t') P)) : ∀ (N n : Nat) (s : σ) (t : τ), I n s t → n < N → RT (itr B N s) (itr C N t) P := by
  intro N
  induction N with
  | zero => intro n s t _ hn; exact absurd hn (Nat.not_lt_zero n)
  | succ N ih =>
    intro n s t hI hn
    obtain ⟨o, o', ho, ho', hp⟩ := h n s t hI
    show RT (bn (B s) _) (bn (C t) _) P
    rw [ho, bn_s, ho', bn_s]
    cases o with
    | inl s' =>
      cases o' with
      | inl t' =>
        obtain ⟨n', h1, h2⟩ := hp
        exact ih n' s' t' h2 (by omega)
      | inr r' => exact absurd hp (fun h => h)
    | inr r =>
      cases o' with
      | inl t' => exact absurd hp (fun h => h)
      | inr r' => exact ⟨r, r', rfl, rfl, hp⟩
/-- a loop told by its states -/
theorem itr_run {σ ρ : Type} {B : σ → Option (σ ⊕ ρ)} (s : Nat → σ) {r : ρ} {n : Nat} (h : ∀ i, i < n → B (s i) = some (.inl (s (i + 1)))) (hx : B (s n) = some (.inr r)) : ∀ (k N : Nat), k ≤ n → n - k < N → itr B N (s k) = some r := by
  intro k N
  induction N generalizing k with
  | zero => intro _ h2; exact absurd h2 (Nat.not_lt_zero _)
  | succ N ih =>
    intro hk hN
    show bn (B (s k)) _ = some r
    by_cases hkn : k = n
    · rw [hkn, hx]; rfl
    · rw [h k (by omega), bn_s]
      exact ih (k + 1) (by omega) (by omega)
/-! memories -/
theorem ups_d (m : Mem) (k : Nat) (f : Nat → Int32) (a : Nat) : ups m k f a = if a = k then f else m a := by
  unfold ups
  by_cases h : a = k
  · rw [if_pos h, h, Nat.beq_refl]; rfl
  · rw [if_neg h]
    cases hb : Nat.beq a k with
    | true => exact absurd (Nat.eq_of_beq_eq_true hb) h
    | false => rfl
theorem upb_d (f : Nat → Int32) (i : Nat) (v : Int32) (j : Nat) : upb f i v j = if j = i then v else f j := by
  unfold upb
  by_cases h : j = i
  · rw [if_pos h, h, Nat.beq_refl]; rfl
  · rw [if_neg h]
    cases hb : Nat.beq j i with
    | true => exact absurd (Nat.eq_of_beq_eq_true hb) h
    | false => rfl
theorem upd_d (f : Nat → Int32) (i : Nat) (v : Int32) (j : Nat) : upd f i v j = if j = i then v else f j := rfl
theorem upi_d (m : Mem) (k i : Nat) (v : Int32) (a : Nat) : upi m k i v a = if a = k then upd (m k) i v else m a := ups_d _ _ _ _
theorem upf_d (m : Mem) (i : Nat) (v : Int32) (a : Nat) : upf m i v a = if a = 0 then upb (m 0) i v else m a := ups_d _ _ _ _
theorem upsL_d (m : Lem) (k : Nat) (f : Nat → Int64) (a : Nat) : upsL m k f a = if a = k then f else m a := by
  unfold upsL
  by_cases h : a = k
  · rw [if_pos h, h, Nat.beq_refl]; rfl
  · rw [if_neg h]
    cases hb : Nat.beq a k with
    | true => exact absurd (Nat.eq_of_beq_eq_true hb) h
    | false => rfl
theorem upbL_d (f : Nat → Int64) (i : Nat) (v : Int64) (j : Nat) : upbL f i v j = if j = i then v else f j := by
  unfold upbL
  by_cases h : j = i
  · rw [if_pos h, h, Nat.beq_refl]; rfl
  · rw [if_neg h]
    cases hb : Nat.beq j i with
    | true => exact absurd (Nat.eq_of_beq_eq_true hb) h
    | false => rfl
theorem upiL_d (m : Lem) (k i : Nat) (v : Int64) (a : Nat) : upiL m k i v a = if a = k then vp_updL (m k) i v else m a := upsL_d _ _ _ _
theorem upfL_d (m : Lem) (i : Nat) (v : Int64) (a : Nat) : upfL m i v a = if a = 0 then upbL (m 0) i v else m a := upsL_d _ _ _ _
/-- what stays: of the cells but those told, of the fields but those told -/
def Fr (cs fs : List Nat) (m m' : Mem) : Prop := (∀ k, k ∉ cs → k ≠ 0 → m' k = m k) ∧ ∀ i, i ∉ fs → m' 0 i = m 0 i
theorem Fr.rf {cs fs : List Nat} {m : Mem} : Fr cs fs m m := ⟨fun _ _ _ => rfl, fun _ _ => rfl⟩
theorem Fr.tr {cs fs : List Nat} {a b c : Mem} (h1 : Fr cs fs a b) (h2 : Fr cs fs b c) : Fr cs fs a c := ⟨fun k h h0 => (h2.1 k h h0).trans (h1.1 k h h0), fun i h => (h2.2 i h).trans (h1.2 i h)⟩
theorem Fr.wk {cs fs cs' fs' : List Nat} {a b : Mem} (h : Fr cs fs a b) (h1 : ∀ k ∈ cs, k ∈ cs') (h2 : ∀ k ∈ fs, k ∈ fs') : Fr cs' fs' a b := ⟨fun k hk h0 => h.1 k (fun q => hk (h1 k q)) h0, fun i hi => h.2 i (fun q => hi (h2 i q))⟩
theorem Fr.ups {cs fs : List Nat} {a b : Mem} {k : Nat} {f : Nat → Int32} (h : Fr cs fs a b) (hk : k ∈ cs) (h0 : k ≠ 0) : Fr cs fs a (ups b k f) := by
  refine ⟨fun j hj hj0 => ?_, fun i hi => ?_⟩
  · rw [ups_d, if_neg (fun e => hj (by rw [e]; exact hk))]; exact h.1 j hj hj0
  · rw [ups_d, if_neg (fun e => h0 e.symm)]; exact h.2 i hi
theorem Fr.upi {cs fs : List Nat} {a b : Mem} {k i : Nat} {v : Int32} (h : Fr cs fs a b) (hk : k ∈ cs) (h0 : k ≠ 0) : Fr cs fs a (upi b k i v) := Fr.ups h hk h0
theorem Fr.upf {cs fs : List Nat} {a b : Mem} {i : Nat} {v : Int32} (h : Fr cs fs a b) (hi : i ∈ fs) : Fr cs fs a (upf b i v) := by
  refine ⟨fun j hj hj0 => ?_, fun j hj => ?_⟩
  · rw [upf_d, if_neg hj0]; exact h.1 j hj hj0
  · rw [upf_d, if_pos rfl, upb_d, if_neg (fun e => hj (by rw [e]; exact hi))]; exact h.2 j hj
/-! numbers -/
theorem nI_lit (n : Nat) : (OfNat.ofNat n : Int32) = nI n := rfl
theorem n_le {a b : Nat} (ha : a < 2 ^ 31) (hb : b < 2 ^ 31) : nI a ≤ nI b ↔ a ≤ b := nI_leI ha hb
theorem n_lt {a b : Nat} (ha : a < 2 ^ 31) (hb : b < 2 ^ 31) : nI a < nI b ↔ a < b := nI_ltI ha hb
theorem n_eq {a b : Nat} (ha : a < 2 ^ 31) (hb : b < 2 ^ 31) : nI a = nI b ↔ a = b := nI_eq ha hb
theorem n_le0 {a : Nat} (ha : a < 2 ^ 31) : nI a ≤ 0 ↔ a = 0 := by
  rw [show (0 : Int32) = nI 0 from rfl, n_le ha (by decide)]; omega
theorem n_eq0 {a : Nat} (ha : a < 2 ^ 31) : nI a = 0 ↔ a = 0 := by
  rw [show (0 : Int32) = nI 0 from rfl, n_eq ha (by decide)]
theorem n_lt0 {a : Nat} (ha : a < 2 ^ 31) : ¬ nI a < 0 := nI_pos ha
theorem n_nm1 {a : Nat} (ha : a < 2 ^ 31) : ¬ nI a = -1 := by
  intro h
  have h1 := nI_toInt ha
  rw [h] at h1
  have : ((-1 : Int32)).toInt = -1 := by decide
  omega
theorem n_add (a b : Nat) : nI a + nI b = nI (a + b) := nI_add a b
theorem n_mul (a b : Nat) : nI a * nI b = nI (a * b) := pk_mul a b
theorem i_cases (x : Int32) : x < 0 ∨ ∃ n : Nat, n < 2 ^ 31 ∧ x = nI n := by
  by_cases h : x < 0
  · exact Or.inl h
  · exact Or.inr (nI_of h)
theorem neg_nle {x : Int32} {a : Nat} (h : x < 0) (ha : a < 2 ^ 31) : ¬ nI a ≤ x := by
  intro h2
  have e1 := Int32.lt_iff_toInt_lt.mp h
  have e2 := Int32.le_iff_toInt_le.mp h2
  rw [nI_toInt ha] at e2
  have : (0 : Int32).toInt = 0 := by decide
  omega
