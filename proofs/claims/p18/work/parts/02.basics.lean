section PR02
/-! arrays filled between two places; a component's slots -/
def pr_fill (g a : Nat → Int32) (b e : Nat) : Nat → Int32 := fun j => if b ≤ j ∧ j < e then g j else a j
theorem pr_fill0 {g a : Nat → Int32} {b : Nat} : pr_fill g a b b = a := funext fun j => if_neg (by omega)
theorem pr_fill00 {g a : Nat → Int32} {b : Nat} : pr_fill g a b (b + 0) = a := pr_fill0
theorem pr_fillS {g a : Nat → Int32} {b e : Nat} (hb : b ≤ e) : upd (pr_fill g a b e) e (g e) = pr_fill g a b (e + 1) := by
  funext j
  show (if j = e then g e else if b ≤ j ∧ j < e then g j else a j) = if b ≤ j ∧ j < e + 1 then g j else a j
  by_cases h : j = e
  · subst h
    rw [if_pos rfl, if_pos ⟨hb, by omega⟩]
  · rw [if_neg h]
    by_cases h2 : b ≤ j ∧ j < e
    · rw [if_pos h2, if_pos ⟨h2.1, by omega⟩]
    · rw [if_neg h2, if_neg (by omega)]
theorem pr_fillN {g a : Nat → Int32} {b e : Nat} (he : g e = a e) : pr_fill g a b e = pr_fill g a b (e + 1) := by
  funext j
  show (if b ≤ j ∧ j < e then g j else a j) = if b ≤ j ∧ j < e + 1 then g j else a j
  by_cases h : j = e
  · subst h
    rw [if_neg (by omega)]
    by_cases h2 : b ≤ j ∧ j < j + 1
    · rw [if_pos h2, he]
    · rw [if_neg h2]
  · by_cases h2 : b ≤ j ∧ j < e
    · rw [if_pos h2, if_pos ⟨h2.1, by omega⟩]
    · rw [if_neg h2, if_neg (by omega)]
theorem pr_fillA {g a : Nat → Int32} {b e : Nat} : pr_fill g a b e e = a e := if_neg (by omega)
def pr_K (ct : Nat → Int32) (c : Nat) : Nat := (ct c).toNatClampNeg
theorem pr_Ke {ct : Nat → Int32} {c k : Nat} (h : ct c = nI k) (hk : k < 2 ^ 31) : pr_K ct c = k := by
  show (ct c).toNatClampNeg = k
  rw [h]
  exact nI_clamp hk
theorem pr_m8 (c : Nat) : nI c * 8 = nI (c * 8) := pk_mul c 8
theorem pr_sl (c i : Nat) : nI c * 8 + nI i = nI (c * 8 + i) := by rw [pr_m8]; exact nI_add _ _
theorem pr_cl {c : Nat} (hc : c < 2 ^ 31) : (nI c).toNatClampNeg = c := nI_clamp hc
theorem pr_i4 {c : Nat} (hc : c < 4) : vp_in (nI c) 4 := vp_in_nI hc (by omega)
theorem pr_i32 {c i : Nat} (hc : c < 4) (hi : i < 8) : vp_in (nI (c * 8 + i)) 32 := vp_in_nI (by omega) (by omega)
theorem pr_10 : ¬ (1 : Int32) = 0 := by decide
/-! yes or no as an int -/
def pr_b (b : Bool) : Int32 := match b with
  | true => 1
  | false => 0
theorem pr_bn (b : Bool) : narrow .boolean (.int (pr_b b)) = .int (pr_b b) := by cases b <;> rfl
theorem pr_bf (b : Bool) : fits .boolean (.int (pr_b b)) = true := by cases b <;> rfl
/-! searches -/
def pr_all (f : Nat → Bool) : Nat → Nat → Bool
  | _, 0 => true
  | i, d + 1 => f i && pr_all f (i + 1) d
def pr_any (f : Nat → Bool) : Nat → Nat → Bool
  | _, 0 => false
  | i, d + 1 => f i || pr_any f (i + 1) d
def pr_ls (f : Nat → Bool) : Nat → Nat → Option Nat
  | _, 0 => none
  | i, d + 1 => match f i with
    | true => some i
    | false => pr_ls f (i + 1) d
theorem pr_all_t {f : Nat → Bool} {i d : Nat} (h : f i = true) : pr_all f i (d + 1) = pr_all f (i + 1) d := by
  show (f i && pr_all f (i + 1) d) = _
  rw [h]; rfl
theorem pr_all_f {f : Nat → Bool} {i d : Nat} (h : f i = false) : pr_all f i (d + 1) = false := by
  show (f i && pr_all f (i + 1) d) = _
  rw [h]; rfl
theorem pr_any_t {f : Nat → Bool} {i d : Nat} (h : f i = true) : pr_any f i (d + 1) = true := by
  show (f i || pr_any f (i + 1) d) = _
  rw [h]; rfl
theorem pr_any_f {f : Nat → Bool} {i d : Nat} (h : f i = false) : pr_any f i (d + 1) = pr_any f (i + 1) d := by
  show (f i || pr_any f (i + 1) d) = _
  rw [h]; rfl
theorem pr_ls_t {f : Nat → Bool} {i d : Nat} (h : f i = true) : pr_ls f i (d + 1) = some i := by
  show (match f i with | true => some i | false => pr_ls f (i + 1) d) = _
  rw [h]
theorem pr_ls_f {f : Nat → Bool} {i d : Nat} (h : f i = false) : pr_ls f i (d + 1) = pr_ls f (i + 1) d := by
  show (match f i with | true => some i | false => pr_ls f (i + 1) d) = _
  rw [h]
theorem pr_ls_in {f : Nat → Bool} : ∀ d i q, pr_ls f i d = some q → i ≤ q ∧ q < i + d := by
  intro d
  induction d with
  | zero => intro i q h; exact absurd h (by intro z; cases z)
  | succ d ih =>
    intro i q h
    cases e : f i with
    | true =>
      rw [pr_ls_t e] at h
      cases h
      omega
    | false =>
      rw [pr_ls_f e] at h
      have := ih (i + 1) q h
      omega
def pr_ans : Option Nat → Int32
  | none => -2
  | some q => nI q
/-! the invariant -/
def pr_C (po ct sp sb pe : Nat → Int32) (c : Nat) : Prop :=
  (po c = 0 ∨ po c = 1) ∧ (∃ k, k ≤ 8 ∧ ct c = nI k ∧ ∀ i, i < k → ∃ p, 1 ≤ p ∧ p ≤ 64 ∧ pe (c * 8 + i) = nI p) ∧ (∃ p q, p ≤ 32 ∧ q ≤ p ∧ sp c = nI p ∧ sb c = nI q)
def pr_Inv (hz nw ad : Int32) (po ct sp sb pe : Nat → Int32) : Prop :=
  (∃ H t : Nat, hz = nI H ∧ nw = nI t ∧ 64 ≤ H ∧ H ≤ 256 ∧ t ≤ H) ∧ (ad = 0 ∨ ad = 1) ∧ ∀ c, c < 4 → pr_C po ct sp sb pe c
end PR02
