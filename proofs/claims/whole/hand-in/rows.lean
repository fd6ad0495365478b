section
section PR01
theorem pk_us {f : Nat → Int32} {k : Nat} {x : Int32} : upd f k x k = x := if_pos rfl
theorem pk_un {f : Nat → Int32} {k j : Nat} {x : Int32} (h : j ≠ k) : upd f k x j = f j := if_neg h
theorem pk_sub {a b : Nat} (h : b ≤ a) : nI a - nI b = nI (a - b) := by
  obtain ⟨c, rfl⟩ : ∃ c, a = c + b := ⟨a - b, by omega⟩
  rw [← nI_add, Int32.add_sub_cancel, Nat.add_sub_cancel]
theorem pk_m1 (n : Nat) : nI (n + 1) + (-1) = nI n := by
  rw [← nI_1, Int32.add_assoc, show (1 : Int32) + (-1) = 0 from rfl, Int32.add_zero]
theorem pk_mul (a b : Nat) : nI a * nI b = nI (a * b) := (Int32.ofNat_mul a b).symm
theorem pk_div {a d : Nat} (ha : a < 2 ^ 31) (h0 : 0 < d) (hd : d < 2 ^ 31) : nI a / nI d = nI (a / d) := by
  apply Int32.toInt_inj.mp
  rw [lg_idiv_nonneg (by rw [nI_toInt ha]; omega) (by rw [nI_toInt hd]; omega), nI_toInt ha, nI_toInt hd, nI_toInt (Nat.lt_of_le_of_lt (Nat.div_le_self a d) ha)]
  first | rfl | exact (Int.natCast_ediv _ _).symm
theorem pk_rem {a d : Nat} (ha : a < 2 ^ 31) (h0 : 0 < d) (hd : d < 2 ^ 31) : nI a - nI a / nI d * nI d = nI (a % d) := by
  rw [pk_div ha h0 hd, pk_mul, pk_sub (Nat.div_mul_le_self a d)]
  exact congrArg nI (by have := Nat.div_add_mod' a d; omega)
theorem pk_sub_toInt {a b : Nat} (ha : a < 2 ^ 30) (hb : b < 2 ^ 30) : (nI a - nI b).toInt = (a : Int) - b := by
  rw [Int32.toInt_sub, nI_toInt (by omega), nI_toInt (by omega)]
  exact Int.bmod_eq_of_le (by omega) (by omega)
theorem pk_sneg {a b : Nat} (hb : b < 2 ^ 30) (h : a < b) : nI a - nI b < 0 := by
  rw [Int32.lt_iff_toInt_lt, pk_sub_toInt (by omega) hb, show (0 : Int32).toInt = 0 from by decide]
  omega
theorem pk_le {x y : Int32} {A B : Prop} (a b : Nat) (f : a ≤ b → A) (g : b < a → B) (hx : x = nI a := by rfl) (hy : y = nI b := by rfl) (ha : a < 2 ^ 31 := by omega) (hb : b < 2 ^ 31 := by omega) : (x ≤ y → A) ∧ (¬ x ≤ y → B) := by
  subst hx hy
  rw [nI_leI ha hb]
  exact ⟨f, fun z => g (by omega)⟩
theorem pk_lt {x y : Int32} {A B : Prop} (a b : Nat) (f : a < b → A) (g : b ≤ a → B) (hx : x = nI a := by rfl) (hy : y = nI b := by rfl) (ha : a < 2 ^ 31 := by omega) (hb : b < 2 ^ 31 := by omega) : (x < y → A) ∧ (¬ x < y → B) := by
  subst hx hy
  rw [nI_ltI ha hb]
  exact ⟨f, fun z => g (by omega)⟩
theorem pk_eq {x y : Int32} {A B : Prop} (a b : Nat) (f : a = b → A) (g : a ≠ b → B) (hx : x = nI a := by rfl) (hy : y = nI b := by rfl) (ha : a < 2 ^ 31 := by omega) (hb : b < 2 ^ 31 := by omega) : (x = y → A) ∧ (¬ x = y → B) := by
  subst hx hy
  rw [nI_eq ha hb]
  exact ⟨f, g⟩
theorem pk_in {x : Int32} (n N : Nat) (h : n < N) (hx : x = nI n := by rfl) (hN : N < 2 ^ 31 := by omega) : vp_in x N := by
  subst hx
  exact vp_in_nI h hN
theorem pk_cl {x : Int32} (n : Nat) (hx : x = nI n := by rfl) (h : n < 2 ^ 31 := by omega) : x.toNatClampNeg = n := by
  subst hx
  exact nI_clamp h
theorem pk_lT {n : Nat} (h : n < 2 ^ 63) : (lN n).toInt = (n : Int) := lg_ofNat_toInt h
theorem pk_lLT {a b : Nat} (ha : a < 2 ^ 63) (hb : b < 2 ^ 63) : lN a < lN b ↔ a < b := by
  rw [Int64.lt_iff_toInt_lt, pk_lT ha, pk_lT hb]; omega
theorem pk_lLE {a b : Nat} (ha : a < 2 ^ 63) (hb : b < 2 ^ 63) : lN a ≤ lN b ↔ a ≤ b := by
  rw [Int64.le_iff_toInt_le, pk_lT ha, pk_lT hb]; omega
theorem pk_lEQ {a b : Nat} (ha : a < 2 ^ 63) (hb : b < 2 ^ 63) : lN a = lN b ↔ a = b := by
  rw [← Int64.toInt_inj, pk_lT ha, pk_lT hb]; omega
theorem pk_lDiv {a b : Nat} (ha : a < 2 ^ 63) (h0 : 0 < b) (hb : b < 2 ^ 63) : lN a / lN b = lN (a / b) := by
  apply Int64.toInt_inj.mp
  rw [lg_ldiv_nonneg (by rw [pk_lT ha]; omega) (by rw [pk_lT hb]; omega), pk_lT ha, pk_lT hb, pk_lT (Nat.lt_of_le_of_lt (Nat.div_le_self a b) ha)]
  rfl
end PR01
end
section
section PR02
/-! arrays filled between two places; a component's slots -/
def pr_fill (g a : Nat → Int32) (b e : Nat) : Nat → Int32 := fun j => if b ≤ j ∧ j < e then g j else a j
theorem pr_fill0 {g a : Nat → Int32} {b : Nat} : pr_fill g a b b = a := funext fun j => if_neg (by omega)
theorem pr_fill00 {g a : Nat → Int32} {b : Nat} : pr_fill g a b (b + 0) = a := pr_fill0
theorem pr_fillS {g a : Nat → Int32} {b e : Nat} (hb : b ≤ e) : upd (pr_fill g a b e) e (g e) = pr_fill g a b (e + 1) := by
  funext j
  show (if j = e then g e else if b ≤ j ∧ j < e then g j else a j) = if b ≤ j ∧ j < e + 1 then g j else a j
  by_cases h : j = e
  · subst h
    rw [if_pos rfl, if_pos ⟨hb, by omega⟩]
  · rw [if_neg h]
    by_cases h2 : b ≤ j ∧ j < e
    · rw [if_pos h2, if_pos ⟨h2.1, by omega⟩]
    · rw [if_neg h2, if_neg (by omega)]
theorem pr_fillN {g a : Nat → Int32} {b e : Nat} (he : g e = a e) : pr_fill g a b e = pr_fill g a b (e + 1) := by
  funext j
  show (if b ≤ j ∧ j < e then g j else a j) = if b ≤ j ∧ j < e + 1 then g j else a j
  by_cases h : j = e
  · subst h
    rw [if_neg (by omega)]
    by_cases h2 : b ≤ j ∧ j < j + 1
    · rw [if_pos h2, he]
    · rw [if_neg h2]
  · by_cases h2 : b ≤ j ∧ j < e
    · rw [if_pos h2, if_pos ⟨h2.1, by omega⟩]
    · rw [if_neg h2, if_neg (by omega)]
theorem pr_fillA {g a : Nat → Int32} {b e : Nat} : pr_fill g a b e e = a e := if_neg (by omega)
def pr_K (ct : Nat → Int32) (c : Nat) : Nat := (ct c).toNatClampNeg
theorem pr_Ke {ct : Nat → Int32} {c k : Nat} (h : ct c = nI k) (hk : k < 2 ^ 31) : pr_K ct c = k := by
  show (ct c).toNatClampNeg = k
  rw [h]
  exact nI_clamp hk
theorem pr_m8 (c : Nat) : nI c * 8 = nI (c * 8) := pk_mul c 8
theorem pr_sl (c i : Nat) : nI c * 8 + nI i = nI (c * 8 + i) := by rw [pr_m8]; exact nI_add _ _
theorem pr_cl {c : Nat} (hc : c < 2 ^ 31) : (nI c).toNatClampNeg = c := nI_clamp hc
theorem pr_i4 {c : Nat} (hc : c < 4) : vp_in (nI c) 4 := vp_in_nI hc (by omega)
theorem pr_i32 {c i : Nat} (hc : c < 4) (hi : i < 8) : vp_in (nI (c * 8 + i)) 32 := vp_in_nI (by omega) (by omega)
theorem pr_10 : ¬ (1 : Int32) = 0 := by decide
/-! yes or no as an int -/
def pr_b (b : Bool) : Int32 := match b with
  | true => 1
  | false => 0
theorem pr_bn (b : Bool) : narrow .boolean (.int (pr_b b)) = .int (pr_b b) := by cases b <;> rfl
theorem pr_bf (b : Bool) : fits .boolean (.int (pr_b b)) = true := by cases b <;> rfl
/-! searches -/
def pr_all (f : Nat → Bool) : Nat → Nat → Bool
  | _, 0 => true
  | i, d + 1 => f i && pr_all f (i + 1) d
def pr_any (f : Nat → Bool) : Nat → Nat → Bool
  | _, 0 => false
  | i, d + 1 => f i || pr_any f (i + 1) d
def pr_ls (f : Nat → Bool) : Nat → Nat → Option Nat
  | _, 0 => none
  | i, d + 1 => match f i with
    | true => some i
    | false => pr_ls f (i + 1) d
theorem pr_all_t {f : Nat → Bool} {i d : Nat} (h : f i = true) : pr_all f i (d + 1) = pr_all f (i + 1) d := by
  show (f i && pr_all f (i + 1) d) = _
  rw [h]; rfl
theorem pr_all_f {f : Nat → Bool} {i d : Nat} (h : f i = false) : pr_all f i (d + 1) = false := by
  show (f i && pr_all f (i + 1) d) = _
  rw [h]; rfl
theorem pr_any_t {f : Nat → Bool} {i d : Nat} (h : f i = true) : pr_any f i (d + 1) = true := by
  show (f i || pr_any f (i + 1) d) = _
  rw [h]; rfl
theorem pr_any_f {f : Nat → Bool} {i d : Nat} (h : f i = false) : pr_any f i (d + 1) = pr_any f (i + 1) d := by
  show (f i || pr_any f (i + 1) d) = _
  rw [h]; rfl
theorem pr_ls_t {f : Nat → Bool} {i d : Nat} (h : f i = true) : pr_ls f i (d + 1) = some i := by
  show (match f i with | true => some i | false => pr_ls f (i + 1) d) = _
  rw [h]
theorem pr_ls_f {f : Nat → Bool} {i d : Nat} (h : f i = false) : pr_ls f i (d + 1) = pr_ls f (i + 1) d := by
  show (match f i with | true => some i | false => pr_ls f (i + 1) d) = _
  rw [h]
theorem pr_ls_in {f : Nat → Bool} : ∀ d i q, pr_ls f i d = some q → i ≤ q ∧ q < i + d := by
  intro d
  induction d with
  | zero => intro i q h; exact absurd h (by intro z; cases z)
  | succ d ih =>
    intro i q h
    cases e : f i with
    | true =>
      rw [pr_ls_t e] at h
      cases h
      omega
    | false =>
      rw [pr_ls_f e] at h
      have := ih (i + 1) q h
      omega
def pr_ans : Option Nat → Int32
  | none => -2
  | some q => nI q
/-! the invariant -/
def pr_C (po ct sp sb pe : Nat → Int32) (c : Nat) : Prop :=
  (po c = 0 ∨ po c = 1) ∧ (∃ k, k ≤ 8 ∧ ct c = nI k ∧ ∀ i, i < k → ∃ p, 1 ≤ p ∧ p ≤ 64 ∧ pe (c * 8 + i) = nI p) ∧ (∃ p q, p ≤ 32 ∧ q ≤ p ∧ sp c = nI p ∧ sb c = nI q)
def pr_Inv (hz nw ad : Int32) (po ct sp sb pe : Nat → Int32) : Prop :=
  (∃ H t : Nat, hz = nI H ∧ nw = nI t ∧ 64 ≤ H ∧ H ≤ 256 ∧ t ≤ H) ∧ (ad = 0 ∨ ad = 1) ∧ ∀ c, c < 4 → pr_C po ct sp sb pe c
end PR02
end
section
section PR03
variable {hz nw ad : Int32} {po ct sp sb pe wc re ex mi le : Nat → Int32}
/-! has an interface -/
theorem pr_xhas {post : Int32 → Prop} {c : Nat} (hc : c < 4) (h0 : sp c = 0 → post 0) (h1 : ¬ sp c = 0 → post 1) : wpX_hasInterface post (hz, nw, ad, po, ct, sp, sb, pe, wc, re, ex, mi, le) (nI c) := by
  refine ⟨pr_i4 hc, ?_⟩
  rw [pr_cl (c := c) (by omega)]
  exact ⟨h0, h1⟩
/-! RESET, each side against the filled arrays -/
def pr_rsL (sp sb : Nat → Int32) : Nat → Int32 := fun c => if sp c = 0 then 0 else sb c
def pr_rsR (g ct a : Nat → Int32) : Nat → (Nat → Int32)
  | 0 => a
  | c + 1 => pr_fill g (pr_rsR g ct a c) (c * 8) (c * 8 + pr_K ct c)
theorem pr_x60 {post : SX → Prop} {J : Int32 → (Nat → Int32) → (Nat → Int32) → (Nat → Int32) → (Nat → Int32) → (Nat → Int32) → (Nat → Int32) → (Nat → Int32) → (Nat → Int32) → (Nat → Int32) → (Nat → Int32) → Prop} {c k : Nat} (hc : c < 4) (hk : k ≤ 8)
    (H : J (nI (c + 1)) po ct sp sb pe wc (pr_fill wc re (c * 8) (c * 8 + k)) (pr_fill (fun _ => 0) ex (c * 8) (c * 8 + k)) mi le) :
    ∀ d i, i + d = k → wX_reset_60 post J (nI c) (nI (c * 8 + k)) hz nw ad (d + 1) (nI (c * 8 + i)) po ct sp sb pe wc (pr_fill wc re (c * 8) (c * 8 + i)) (pr_fill (fun _ => 0) ex (c * 8) (c * 8 + i)) mi le := by
  intro d
  induction d with
  | zero =>
    intro i hi
    have e : i = k := by omega
    subst e
    exact pk_le (c * 8 + i) (c * 8 + i) (fun _ => nm_r (nI_1 c) H) (fun z => absurd z (by omega))
  | succ d ih =>
    intro i hi
    have hin : vp_in (nI (c * 8 + i)) 32 := pr_i32 hc (by omega)
    have hcl : (nI (c * 8 + i)).toNatClampNeg = c * 8 + i := nI_clamp (by omega)
    refine pk_le (c * 8 + k) (c * 8 + i) (fun z => absurd z (by omega)) (fun _ => ⟨hin, hin, nm_r (e' := pr_fill wc re (c * 8) (c * 8 + (i + 1))) ?_ ⟨hin, nm_r (e' := pr_fill (fun _ => 0) ex (c * 8) (c * 8 + (i + 1))) ?_ (nm_r (e' := nI (c * 8 + (i + 1))) (nI_1 _) (ih (i + 1) (by omega)))⟩⟩)
    · rw [hcl]; exact pr_fillS (by omega)
    · rw [hcl]; exact pr_fillS (g := fun _ => 0) (by omega)
theorem pr_x42 {post : SX → Prop} {J : Int32 → (Nat → Int32) → (Nat → Int32) → (Nat → Int32) → (Nat → Int32) → (Nat → Int32) → (Nat → Int32) → (Nat → Int32) → (Nat → Int32) → (Nat → Int32) → (Nat → Int32) → Prop} {c k : Nat} {z0 : Int32} (hc : c < 4) (hk : k ≤ 8) (hct : ct c = nI k) (hz0 : z0 = pr_rsL sp sb c)
    (H : J (nI (c + 1)) po ct sp sb pe wc (pr_fill wc re (c * 8) (c * 8 + k)) (pr_fill (fun _ => 0) ex (c * 8) (c * 8 + k)) mi (pr_fill (pr_rsL sp sb) le 0 (c + 1))) :
    wX_reset_42 post J (nI c) z0 (nI c) hz nw ad po ct sp sb pe wc re ex mi (pr_fill (pr_rsL sp sb) le 0 c) := by
  have hcl : (nI c).toNatClampNeg = c := nI_clamp (by omega)
  have W := pr_x60 (post := post) (hz := hz) (nw := nw) (ad := ad) hc hk H k 0 (by omega)
  rw [pr_fill00, pr_fill00] at W
  refine ⟨pr_i4 hc, nm_r (e' := pr_fill (pr_rsL sp sb) le 0 (c + 1)) ?_ (nm_r (e' := nI (c * 8)) (pr_m8 c) ⟨pr_i4 hc, nm_r (e' := nI (c * 8 + k)) ?_ ⟨k + 1, W⟩⟩)⟩
  · rw [hcl, hz0]; exact pr_fillS (Nat.zero_le _)
  · rw [hcl, hct]; exact nI_add _ _
theorem pr_x7 {post : SX → Prop} (I : ∀ c, c < 4 → pr_C po ct sp sb pe c)
    (H : post (hz, nw, ad, po, ct, sp, sb, pe, wc, pr_rsR wc ct re 4, pr_rsR (fun _ => 0) ct ex 4, pr_fill (fun _ => 0) mi 0 4, pr_fill (pr_rsL sp sb) le 0 4)) :
    ∀ d c, c + d = 4 → wX_reset_7 post hz nw ad (d + 1) (nI c) po ct sp sb pe wc (pr_rsR wc ct re c) (pr_rsR (fun _ => 0) ct ex c) (pr_fill (fun _ => 0) mi 0 c) (pr_fill (pr_rsL sp sb) le 0 c) := by
  intro d
  induction d with
  | zero =>
    intro c hc
    have e : c = 4 := by omega
    subst e
    exact pk_le 4 4 (fun _ => H) (fun z => absurd z (by omega))
  | succ d ih =>
    intro c hc
    have hc4 : c < 4 := by omega
    have hcl : (nI c).toNatClampNeg = c := nI_clamp (by omega)
    obtain ⟨-, ⟨k, hk, hct, -⟩, -⟩ := I c hc4
    have hK : pr_K ct c = k := pr_Ke hct (by omega)
    have W := ih (c + 1) (by omega)
    rw [show pr_rsR wc ct re (c + 1) = pr_fill wc (pr_rsR wc ct re c) (c * 8) (c * 8 + k) from by rw [← hK]; rfl, show pr_rsR (fun _ => 0) ct ex (c + 1) = pr_fill (fun _ => 0) (pr_rsR (fun _ => 0) ct ex c) (c * 8) (c * 8 + k) from by rw [← hK]; rfl] at W
    refine pk_le 4 c (fun z => absurd z (by omega)) (fun _ => ⟨pr_i4 hc4, nm_r (e' := pr_fill (fun _ => 0) mi 0 (c + 1)) ?_ (pr_xhas hc4 (fun z => br_t rfl (pr_x42 hc4 hk hct ?_ W)) (fun z => br_f pr_10 ⟨pr_i4 hc4, pr_x42 hc4 hk hct ?_ W⟩))⟩)
    · rw [hcl]; exact pr_fillS (g := fun _ => 0) (Nat.zero_le _)
    · exact (if_pos z).symm
    · rw [hcl]; exact (if_neg z).symm
theorem pr_xreset {post : SX → Prop} (I : ∀ c, c < 4 → pr_C po ct sp sb pe c)
    (H : post (hz, 0, ad, po, ct, sp, sb, pe, wc, pr_rsR wc ct re 4, pr_rsR (fun _ => 0) ct ex 4, pr_fill (fun _ => 0) mi 0 4, pr_fill (pr_rsL sp sb) le 0 4)) :
    wpX_reset post (hz, nw, ad, po, ct, sp, sb, pe, wc, re, ex, mi, le) := by
  have W := pr_x7 (wc := wc) (re := re) (ex := ex) (mi := mi) (le := le) I H 4 0 (by omega)
  rw [pr_fill0, pr_fill0] at W
  exact ⟨5, W⟩
theorem pr_xinval {post : SX → Prop} (I : ∀ c, c < 4 → pr_C po ct sp sb pe c)
    (H : post (hz, 0, 0, po, ct, sp, sb, pe, wc, pr_rsR wc ct re 4, pr_rsR (fun _ => 0) ct ex 4, pr_fill (fun _ => 0) mi 0 4, pr_fill (pr_rsL sp sb) le 0 4)) :
    wpX_invalidate post (hz, nw, ad, po, ct, sp, sb, pe, wc, re, ex, mi, le) := by
  unfold wpX_invalidate
  exact pr_xreset I H
/-! the reference -/
theorem pr_y46 {post : SY → Prop} {J : Int32 → (Nat → Int32) → (Nat → Int32) → (Nat → Int32) → (Nat → Int32) → (Nat → Int32) → (Nat → Int32) → (Nat → Int32) → (Nat → Int32) → (Nat → Int32) → (Nat → Int32) → Prop} {c k : Nat} (hc : c < 4) (hk : k ≤ 8) (hct : ct c = nI k)
    (H : J (nI (c + 1)) po ct sp sb mi le pe wc (pr_fill wc re (c * 8) (c * 8 + k)) (pr_fill (fun _ => 0) ex (c * 8) (c * 8 + k))) :
    ∀ d i, i + d = k → wY_reset_46 post J (nI c) hz nw ad (d + 1) (nI i) po ct sp sb mi le pe wc (pr_fill wc re (c * 8) (c * 8 + i)) (pr_fill (fun _ => 0) ex (c * 8) (c * 8 + i)) := by
  have hcc : ct (nI c).toNatClampNeg = nI k := by rw [pr_cl (c := c) (by omega)]; exact hct
  intro d
  induction d with
  | zero =>
    intro i hi
    have e : i = k := by omega
    subst e
    exact ⟨pr_i4 hc, pk_le i i (fun _ => nm_r (nI_1 c) H) (fun z => absurd z (by omega)) hcc⟩
  | succ d ih =>
    intro i hi
    have hin : vp_in (nI c * 8 + nI i) 32 := by rw [pr_sl]; exact pr_i32 hc (by omega)
    have hcl : (nI c * 8 + nI i).toNatClampNeg = c * 8 + i := by rw [pr_sl]; exact nI_clamp (by omega)
    refine ⟨pr_i4 hc, pk_le k i (fun z => absurd z (by omega)) (fun _ => ⟨hin, hin, nm_r (e' := pr_fill wc re (c * 8) (c * 8 + (i + 1))) ?_ ⟨hin, nm_r (e' := pr_fill (fun _ => 0) ex (c * 8) (c * 8 + (i + 1))) ?_ (nm_r (e' := nI (i + 1)) (nI_1 _) (ih (i + 1) (by omega)))⟩⟩) hcc⟩
    · rw [hcl]; exact pr_fillS (by omega)
    · rw [hcl]; exact pr_fillS (g := fun _ => 0) (by omega)
theorem pr_y7 {post : SY → Prop} (I : ∀ c, c < 4 → pr_C po ct sp sb pe c)
    (H : post (hz, nw, ad, po, ct, sp, sb, pr_fill (fun _ => 0) mi 0 4, pr_fill (pr_rsL sp sb) le 0 4, pe, wc, pr_rsR wc ct re 4, pr_rsR (fun _ => 0) ct ex 4)) :
    ∀ d c, c + d = 4 → wY_reset_7 post hz nw ad (d + 1) (nI c) po ct sp sb (pr_fill (fun _ => 0) mi 0 c) (pr_fill (pr_rsL sp sb) le 0 c) pe wc (pr_rsR wc ct re c) (pr_rsR (fun _ => 0) ct ex c) := by
  intro d
  induction d with
  | zero =>
    intro c hc
    have e : c = 4 := by omega
    subst e
    exact pk_le 4 4 (fun _ => H) (fun z => absurd z (by omega))
  | succ d ih =>
    intro c hc
    have hc4 : c < 4 := by omega
    have hcl : (nI c).toNatClampNeg = c := nI_clamp (by omega)
    obtain ⟨-, ⟨k, hk, hct, -⟩, ⟨p, q, hp, hq, hsp, hsb⟩⟩ := I c hc4
    have hK : pr_K ct c = k := pr_Ke hct (by omega)
    have W := ih (c + 1) (by omega)
    rw [show pr_rsR wc ct re (c + 1) = pr_fill wc (pr_rsR wc ct re c) (c * 8) (c * 8 + k) from by rw [← hK]; rfl, show pr_rsR (fun _ => 0) ct ex (c + 1) = pr_fill (fun _ => 0) (pr_rsR (fun _ => 0) ct ex c) (c * 8) (c * 8 + k) from by rw [← hK]; rfl] at W
    have V := pr_y46 (post := post) (hz := hz) (nw := nw) (ad := ad) hc4 hk hct W k 0 (by omega)
    rw [pr_fill00, pr_fill00] at V
    have hspc : sp (nI c).toNatClampNeg = nI p := by rw [hcl]; exact hsp
    refine pk_le 4 c (fun z => absurd z (by omega)) (fun _ => ⟨pr_i4 hc4, nm_r (e' := pr_fill (fun _ => 0) mi 0 (c + 1)) ?_ ⟨pr_i4 hc4, pk_le p 0 (fun z => ⟨pr_i4 hc4, nm_r (e' := pr_fill (pr_rsL sp sb) le 0 (c + 1)) ?_ ⟨k + 1, V⟩⟩) (fun z => ⟨pr_i4 hc4, pr_i4 hc4, nm_r (e' := pr_fill (pr_rsL sp sb) le 0 (c + 1)) ?_ ⟨k + 1, V⟩⟩) hspc⟩⟩)
    · rw [hcl]; exact pr_fillS (g := fun _ => 0) (Nat.zero_le _)
    · rw [hcl]
      have e : (0 : Int32) = pr_rsL sp sb c := (if_pos (by rw [hsp, show p = 0 from by omega]; rfl)).symm
      rw [e]; exact pr_fillS (Nat.zero_le _)
    · rw [hcl]
      have e : sb c = pr_rsL sp sb c := (if_neg (by rw [hsp]; exact nI_ne0 z (by omega))).symm
      rw [e]; exact pr_fillS (Nat.zero_le _)
theorem pr_yreset {post : SY → Prop} (I : ∀ c, c < 4 → pr_C po ct sp sb pe c)
    (H : post (hz, 0, ad, po, ct, sp, sb, pr_fill (fun _ => 0) mi 0 4, pr_fill (pr_rsL sp sb) le 0 4, pe, wc, pr_rsR wc ct re 4, pr_rsR (fun _ => 0) ct ex 4)) :
    wpY_reset post (hz, nw, ad, po, ct, sp, sb, mi, le, pe, wc, re, ex) := by
  have W := pr_y7 (wc := wc) (re := re) (ex := ex) (mi := mi) (le := le) I H 4 0 (by omega)
  rw [pr_fill0, pr_fill0] at W
  exact ⟨5, W⟩
end PR03
end
section
section PR04
variable {hz nw ad : Int32} {po ct sp sb pe wc re ex mi le : Nat → Int32}
/-! demand -/
def pr_dm (pe wc : Nat → Int32) (t : Int32) (b : Nat) : Nat → Int32
  | 0 => 0
  | d + 1 => pr_dm pe wc t b d + t / pe (b + d) * wc (b + d)
theorem pr_xdm23 {post : Int32 → Prop} {t : Int32} {c k : Nat} (hc : c < 4) (hk : k ≤ 8) (hp : ∀ i, i < k → ¬ pe (c * 8 + i) = 0)
    (H : post (pr_dm pe wc t (c * 8) k)) :
    ∀ d i, i + d = k → wX_demand_23 post t (nI (c * 8 + k)) hz nw ad po ct sp sb pe wc re ex mi le (d + 1) (pr_dm pe wc t (c * 8) i) (nI (c * 8 + i)) := by
  intro d
  induction d with
  | zero =>
    intro i hi
    have e : i = k := by omega
    subst e
    exact pk_le (c * 8 + i) (c * 8 + i) (fun _ => H) (fun z => absurd z (by omega))
  | succ d ih =>
    intro i hi
    have hin : vp_in (nI (c * 8 + i)) 32 := pr_i32 hc (by omega)
    have hcl : (nI (c * 8 + i)).toNatClampNeg = c * 8 + i := nI_clamp (by omega)
    refine pk_le (c * 8 + k) (c * 8 + i) (fun z => absurd z (by omega)) (fun _ => ⟨hin, ?_, hin, nm_r (e' := pr_dm pe wc t (c * 8) (i + 1)) ?_ (nm_r (e' := nI (c * 8 + (i + 1))) (nI_1 _) (ih (i + 1) (by omega)))⟩)
    · rw [hcl]; exact hp i (by omega)
    · rw [hcl]; rfl
theorem pr_xdemand {post : Int32 → Prop} {t : Int32} {c k : Nat} (hc : c < 4) (hk : k ≤ 8) (hct : ct c = nI k) (hp : ∀ i, i < k → ¬ pe (c * 8 + i) = 0)
    (H : post (pr_dm pe wc t (c * 8) k)) : wpX_demand post (hz, nw, ad, po, ct, sp, sb, pe, wc, re, ex, mi, le) (nI c) t := by
  have hcl : (nI c).toNatClampNeg = c := nI_clamp (by omega)
  refine nm_r (e' := nI (c * 8)) (pr_m8 c) ⟨pr_i4 hc, nm_r (e' := nI (c * 8 + k)) ?_ ⟨k + 1, pr_xdm23 hc hk hp H k 0 (by omega)⟩⟩
  rw [hcl, hct]; exact nI_add _ _
theorem pr_ydm5 {post : Int32 → Prop} {t : Int32} {c k : Nat} (hc : c < 4) (hk : k ≤ 8) (hct : ct c = nI k) (hp : ∀ i, i < k → ¬ pe (c * 8 + i) = 0)
    (H : post (pr_dm pe wc t (c * 8) k)) :
    ∀ d i, i + d = k → wY_dbf_5 post (nI c) t hz nw ad po ct sp sb mi le pe wc re ex (d + 1) (pr_dm pe wc t (c * 8) i) (nI i) := by
  have hcc : ct (nI c).toNatClampNeg = nI k := by rw [pr_cl (c := c) (by omega)]; exact hct
  intro d
  induction d with
  | zero =>
    intro i hi
    have e : i = k := by omega
    subst e
    exact ⟨pr_i4 hc, pk_le i i (fun _ => H) (fun z => absurd z (by omega)) hcc⟩
  | succ d ih =>
    intro i hi
    have hin : vp_in (nI c * 8 + nI i) 32 := by rw [pr_sl]; exact pr_i32 hc (by omega)
    have hcl : (nI c * 8 + nI i).toNatClampNeg = c * 8 + i := by rw [pr_sl]; exact nI_clamp (by omega)
    refine ⟨pr_i4 hc, pk_le k i (fun z => absurd z (by omega)) (fun _ => ⟨hin, ?_, hin, nm_r (e' := pr_dm pe wc t (c * 8) (i + 1)) ?_ (nm_r (e' := nI (i + 1)) (nI_1 _) (ih (i + 1) (by omega)))⟩) hcc⟩
    · rw [hcl]; exact hp i (by omega)
    · rw [hcl]; rfl
theorem pr_ydbf {post : Int32 → Prop} {t : Int32} {c k : Nat} (hc : c < 4) (hk : k ≤ 8) (hct : ct c = nI k) (hp : ∀ i, i < k → ¬ pe (c * 8 + i) = 0)
    (H : post (pr_dm pe wc t (c * 8) k)) : wpY_dbf post (hz, nw, ad, po, ct, sp, sb, mi, le, pe, wc, re, ex) (nI c) t :=
  ⟨k + 1, pr_ydm5 hc hk hct hp H k 0 (by omega)⟩
/-! request, over the first j + 1 tasks -/
def pr_rq (pe wc : Nat → Int32) (t : Int32) (b : Nat) : Nat → Int32
  | 0 => 0
  | d + 1 => pr_rq pe wc t b d + (t + pe (b + d) - 1) / pe (b + d) * wc (b + d)
theorem pr_xrq19 {post : Int32 → Prop} {t : Int32} {c j : Nat} (hc : c < 4) (hj : j < 8) (hp : ∀ i, i < j + 1 → ¬ pe (c * 8 + i) = 0)
    (H : post (pr_rq pe wc t (c * 8) (j + 1))) :
    ∀ d i, i + d = j + 1 → wX_request_19 post t (nI (c * 8 + j)) hz nw ad po ct sp sb pe wc re ex mi le (d + 1) (pr_rq pe wc t (c * 8) i) (nI (c * 8 + i)) := by
  intro d
  induction d with
  | zero =>
    intro i hi
    have e : i = j + 1 := by omega
    subst e
    exact pk_lt (c * 8 + j) (c * 8 + (j + 1)) (fun _ => H) (fun z => absurd z (by omega))
  | succ d ih =>
    intro i hi
    have hin : vp_in (nI (c * 8 + i)) 32 := pr_i32 hc (by omega)
    have hcl : (nI (c * 8 + i)).toNatClampNeg = c * 8 + i := nI_clamp (by omega)
    refine pk_lt (c * 8 + j) (c * 8 + i) (fun z => absurd z (by omega)) (fun _ => ⟨hin, nm_r (e' := pe (c * 8 + i)) (by rw [hcl]) ⟨hp i (by omega), hin, nm_r (e' := pr_rq pe wc t (c * 8) (i + 1)) ?_ (nm_r (e' := nI (c * 8 + (i + 1))) (nI_1 _) (ih (i + 1) (by omega)))⟩⟩)
    rw [hcl]; rfl
theorem pr_xrequest {post : Int32 → Prop} {t : Int32} {c j : Nat} (hc : c < 4) (hj : j < 8) (hp : ∀ i, i < j + 1 → ¬ pe (c * 8 + i) = 0)
    (H : post (pr_rq pe wc t (c * 8) (j + 1))) : wpX_request post (hz, nw, ad, po, ct, sp, sb, pe, wc, re, ex, mi, le) (nI c) (nI j) t :=
  nm_r (e' := nI (c * 8)) (pr_m8 c) (nm_r (e' := nI (c * 8 + j)) (nI_add _ _) ⟨j + 1 + 1, pr_xrq19 hc hj hp H (j + 1) 0 (by omega)⟩)
theorem pr_yrb6 {post : Int32 → Prop} {t : Int32} {c j : Nat} (hc : c < 4) (hj : j < 8) (hp : ∀ i, i < j + 1 → ¬ pe (c * 8 + i) = 0)
    (H : post (pr_rq pe wc t (c * 8) (j + 1))) :
    ∀ d i, i + d = j + 1 → wY_rbf_6 post (nI c) (nI j) t hz nw ad po ct sp sb mi le pe wc re ex (d + 1) (pr_rq pe wc t (c * 8) i) (nI i) := by
  intro d
  induction d with
  | zero =>
    intro i hi
    have e : i = j + 1 := by omega
    subst e
    exact pk_lt j (j + 1) (fun _ => H) (fun z => absurd z (by omega))
  | succ d ih =>
    intro i hi
    have hin : vp_in (nI c * 8 + nI i) 32 := by rw [pr_sl]; exact pr_i32 hc (by omega)
    have hcl : (nI c * 8 + nI i).toNatClampNeg = c * 8 + i := by rw [pr_sl]; exact nI_clamp (by omega)
    refine pk_lt j i (fun z => absurd z (by omega)) (fun _ => pk_le 8 i (fun z => absurd z (by omega)) (fun _ => ⟨hin, nm_r (e' := pe (c * 8 + i)) (by rw [hcl]) ⟨hp i (by omega), hin, nm_r (e' := pr_rq pe wc t (c * 8) (i + 1)) ?_ (nm_r (e' := nI (i + 1)) (nI_1 _) (ih (i + 1) (by omega)))⟩⟩))
    rw [hcl]; rfl
theorem pr_yrbf {post : Int32 → Prop} {t : Int32} {c j : Nat} (hc : c < 4) (hj : j < 8) (hp : ∀ i, i < j + 1 → ¬ pe (c * 8 + i) = 0)
    (H : post (pr_rq pe wc t (c * 8) (j + 1))) : wpY_rbf post (hz, nw, ad, po, ct, sp, sb, mi, le, pe, wc, re, ex) (nI c) (nI j) t :=
  ⟨j + 1 + 1, pr_yrb6 hc hj hp H (j + 1) 0 (by omega)⟩
/-! supply, in naturals -/
def pr_sb (p q t : Nat) : Nat := if q = 0 ∨ t ≤ p - q then 0 else (t - (p - q)) / p * q + ((t - (p - q)) % p - (p - q))
theorem pr_xsup {post : Int32 → Prop} {p q t : Nat} (hp : 1 ≤ p) (hp2 : p ≤ 32) (hq : q ≤ p) (ht : t ≤ 100000)
    (H : post (nI (pr_sb p q t))) : wpX_supply post (nI p) (nI q) (nI t) := by
  refine nm_r (e' := nI (p - q)) (pk_sub hq) (pk_eq q 0 (fun z => ?_) (fun z => pk_lt (p - q) t (fun z2 => ?_) (fun z2 => ?_)))
  · have e : pr_sb p q t = 0 := if_pos (Or.inl z)
    rw [e] at H; exact H
  · have e : pr_sb p q t = (t - (p - q)) / p * q + ((t - (p - q)) % p - (p - q)) := if_neg (by omega)
    have hm : (t - (p - q)) % p < p := Nat.mod_lt _ hp
    rw [e, ← nI_add, ← pk_mul] at H
    refine nm_r (e' := nI (t - (p - q))) (pk_sub (by omega)) ⟨nI_ne0 hp (by omega), nm_r (e' := nI ((t - (p - q)) / p)) (pk_div (by omega) hp (by omega)) ⟨nI_ne0 hp (by omega), nm_r (e' := nI ((t - (p - q)) % p)) (pk_rem (by omega) hp (by omega)) (pk_le ((t - (p - q)) % p) (p - q) (fun z3 => ?_) (fun z3 => nm_r (e' := nI ((t - (p - q)) % p - (p - q))) (pk_sub (by omega)) H))⟩⟩
    rw [show (t - (p - q)) % p - (p - q) = 0 from by omega] at H
    exact H
  · have e : pr_sb p q t = 0 := if_pos (Or.inr z2)
    rw [e] at H; exact H
theorem pr_ysbf {post : Int32 → Prop} {p q t : Nat} (hp : 1 ≤ p) (hp2 : p ≤ 32) (hq : q ≤ p) (ht : t ≤ 100000)
    (H : post (nI (pr_sb p q t))) : wpY_sbf post (hz, nw, ad, po, ct, sp, sb, mi, le, pe, wc, re, ex) (nI p) (nI q) (nI t) := by
  refine pk_eq q 0 (fun z => ?_) (fun z => pk_lt (p - q) t (fun z2 => ?_) (fun z2 => ?_) (pk_sub hq))
  · have e : pr_sb p q t = 0 := if_pos (Or.inl z)
    rw [e] at H; exact H
  · have e : pr_sb p q t = (t - (p - q)) / p * q + ((t - (p - q)) % p - (p - q)) := if_neg (by omega)
    have hm : (t - (p - q)) % p < p := Nat.mod_lt _ hp
    rw [e, ← nI_add, ← pk_mul] at H
    refine nm_r (e' := nI (p - q)) (pk_sub hq) (nm_r (e' := nI (t - (p - q))) (pk_sub (by omega)) ⟨nI_ne0 hp (by omega), nm_r (e' := nI ((t - (p - q)) / p)) (pk_div (by omega) hp (by omega)) ⟨nI_ne0 hp (by omega), nm_r (e' := nI ((t - (p - q)) % p)) (pk_rem (by omega) hp (by omega)) ?_⟩⟩)
    by_cases z3 : p - q ≤ (t - (p - q)) % p
    · exact nm_r (e' := nI ((t - (p - q)) % p - (p - q))) (pk_sub z3) (br_t (nI_pos' (by omega)) H)
    · rw [show (t - (p - q)) % p - (p - q) = 0 from by omega] at H
      exact nm_e (br_f (Int32.not_le.mpr (pk_sneg (by omega) (by omega))) H)
  · have e : pr_sb p q t = 0 := if_pos (Or.inr z2)
    rw [e] at H; exact H
end PR04
end
section
section PR05
variable {hz nw ad : Int32} {po ct sp sb pe wc re ex mi le : Nat → Int32}
/-! what covering asks, as yes or no -/
def pr_fD (pe wc : Nat → Int32) (c k p q : Nat) : Nat → Bool := fun t => decide (pr_dm pe wc (nI t) (c * 8) k ≤ nI (pr_sb p q t))
def pr_fT (pe wc : Nat → Int32) (c p q j : Nat) : Nat → Bool := fun t => decide (¬ nI (pr_sb p q t) < pr_rq pe wc (nI t) (c * 8) (j + 1))
def pr_fF (pe wc : Nat → Int32) (c p q : Nat) : Nat → Bool := fun j => pr_any (pr_fT pe wc c p q j) 1 (pr_K pe (c * 8 + j))
def pr_cv (po pe wc : Nat → Int32) (Hn c k p : Nat) : Nat → Bool := fun q => if po c = 1 then pr_all (pr_fF pe wc c p q) 0 k else pr_all (pr_fD pe wc c k p q) 1 Hn
theorem pr_nz {c k : Nat} (h : ∀ i, i < k → ∃ p, 1 ≤ p ∧ p ≤ 64 ∧ pe (c * 8 + i) = nI p) : ∀ i, i < k → ¬ pe (c * 8 + i) = 0 := by
  intro i hi
  obtain ⟨p, h1, h2, e⟩ := h i hi
  rw [e]
  exact nI_ne0 h1 (by omega)
/-! EDF -/
theorem pr_xcd3 {post : Int32 → Prop} {Hn c k p q : Nat} (hH : Hn ≤ 256) (hc : c < 4) (hk : k ≤ 8) (hct : ct c = nI k) (hpe : ∀ i, i < k → ¬ pe (c * 8 + i) = 0) (hp : 1 ≤ p) (hp2 : p ≤ 32) (hq : q ≤ p) :
    ∀ d i, i + d = Hn + 1 → post (pr_b (pr_all (pr_fD pe wc c k p q) i d)) → wX_coversDeadlines_3 post (nI c) (nI p) (nI q) (nI Hn) nw ad po ct sp sb pe wc re ex mi le (d + 1) (nI i) := by
  intro d
  induction d with
  | zero =>
    intro i hi H
    exact pk_lt Hn i (fun _ => H) (fun z => absurd z (by omega))
  | succ d ih =>
    intro i hi H
    refine pk_lt Hn i (fun z => absurd z (by omega)) (fun _ => pr_xdemand hc hk hct hpe (pr_xsup hp hp2 hq (by omega) (br_c (fun z => nm_r (e' := nI (i + 1)) (nI_1 _) (ih (i + 1) (by omega) ?_)) (fun z => ?_))))
    · rw [pr_all_t (decide_eq_true z)] at H; exact H
    · rw [pr_all_f (decide_eq_false z)] at H; exact H
theorem pr_xcd {post : Int32 → Prop} {Hn c k p q : Nat} (hH : Hn ≤ 256) (hc : c < 4) (hk : k ≤ 8) (hct : ct c = nI k) (hpe : ∀ i, i < k → ¬ pe (c * 8 + i) = 0) (hp : 1 ≤ p) (hp2 : p ≤ 32) (hq : q ≤ p)
    (H : post (pr_b (pr_all (pr_fD pe wc c k p q) 1 Hn))) : wpX_coversDeadlines post (nI Hn, nw, ad, po, ct, sp, sb, pe, wc, re, ex, mi, le) (nI c) (nI p) (nI q) :=
  ⟨Hn + 1, pr_xcd3 hH hc hk hct hpe hp hp2 hq Hn 1 (by omega) H⟩
theorem pr_yc23 {post : Int32 → Prop} {Hn c k p q : Nat} (hH : Hn ≤ 256) (hc : c < 4) (hk : k ≤ 8) (hct : ct c = nI k) (hpe : ∀ i, i < k → ¬ pe (c * 8 + i) = 0) (hp : 1 ≤ p) (hp2 : p ≤ 32) (hq : q ≤ p) :
    ∀ d i, i + d = Hn + 1 → post (pr_b (pr_all (pr_fD pe wc c k p q) i d)) → wY_covers_23 post (nI c) (nI p) (nI q) (nI Hn) nw ad po ct sp sb mi le pe wc re ex (d + 1) (nI i) := by
  intro d
  induction d with
  | zero =>
    intro i hi H
    exact pk_lt Hn i (fun _ => H) (fun z => absurd z (by omega))
  | succ d ih =>
    intro i hi H
    refine pk_lt Hn i (fun z => absurd z (by omega)) (fun _ => pr_ydbf hc hk hct hpe (pr_ysbf hp hp2 hq (by omega) (br_c (fun z => nm_r (e' := nI (i + 1)) (nI_1 _) (ih (i + 1) (by omega) ?_)) (fun z => ?_))))
    · rw [pr_all_t (decide_eq_true z)] at H; exact H
    · rw [pr_all_f (decide_eq_false z)] at H; exact H
/-! fixed priority -/
theorem pr_xct16 {post : Int32 → Prop} {T c j p q : Nat} (hT : T ≤ 64) (hc : c < 4) (hj : j < 8) (hpe : ∀ i, i < j + 1 → ¬ pe (c * 8 + i) = 0) (hp : 1 ≤ p) (hp2 : p ≤ 32) (hq : q ≤ p) :
    ∀ d i, i + d = T + 1 → post (pr_b (pr_any (pr_fT pe wc c p q j) i d)) → wX_coversTask_16 post (nI c) (nI j) (nI p) (nI q) (nI T) hz nw ad po ct sp sb pe wc re ex mi le (d + 1) (nI i) := by
  intro d
  induction d with
  | zero =>
    intro i hi H
    exact pk_lt T i (fun _ => H) (fun z => absurd z (by omega))
  | succ d ih =>
    intro i hi H
    refine pk_lt T i (fun z => absurd z (by omega)) (fun _ => pr_xrequest hc hj hpe (pr_xsup hp hp2 hq (by omega) (br_c (fun z => nm_r (e' := nI (i + 1)) (nI_1 _) (ih (i + 1) (by omega) ?_)) (fun z => ?_))))
    · rw [pr_any_f (decide_eq_false (fun y => y z))] at H; exact H
    · rw [pr_any_t (decide_eq_true z)] at H; exact H
theorem pr_xct {post : Int32 → Prop} {c k j p q : Nat} (hc : c < 4) (hk : k ≤ 8) (hj : j < k) (hpe : ∀ i, i < k → ∃ p, 1 ≤ p ∧ p ≤ 64 ∧ pe (c * 8 + i) = nI p) (hp : 1 ≤ p) (hp2 : p ≤ 32) (hq : q ≤ p)
    (H : post (pr_b (pr_fF pe wc c p q j))) : wpX_coversTask post (hz, nw, ad, po, ct, sp, sb, pe, wc, re, ex, mi, le) (nI c) (nI j) (nI p) (nI q) := by
  obtain ⟨T, h1, hT, e⟩ := hpe j hj
  have hin : vp_in (nI c * 8 + nI j) 32 := by rw [pr_sl]; exact pr_i32 hc (by omega)
  have hcl : (nI c * 8 + nI j).toNatClampNeg = c * 8 + j := by rw [pr_sl]; exact nI_clamp (by omega)
  have H' : post (pr_b (pr_any (pr_fT pe wc c p q j) 1 T)) := by
    have H2 : post (pr_b (pr_any (pr_fT pe wc c p q j) 1 (pr_K pe (c * 8 + j)))) := H
    rw [pr_Ke e (by omega)] at H2; exact H2
  exact ⟨hin, nm_r (e' := nI T) (by rw [hcl]; exact e) ⟨T + 1, pr_xct16 hT hc (by omega) (fun i hi => pr_nz hpe i (by omega)) hp hp2 hq T 1 (by omega) H'⟩⟩
theorem pr_xcf11 {post : Int32 → Prop} {c k p q : Nat} (hc : c < 4) (hk : k ≤ 8) (hpe : ∀ i, i < k → ∃ p, 1 ≤ p ∧ p ≤ 64 ∧ pe (c * 8 + i) = nI p) (hp : 1 ≤ p) (hp2 : p ≤ 32) (hq : q ≤ p) :
    ∀ d i, i + d = k → post (pr_b (pr_all (pr_fF pe wc c p q) i d)) → wX_coversFixedPriority_11 post (nI c) (nI p) (nI q) (nI k) hz nw ad po ct sp sb pe wc re ex mi le (d + 1) (nI i) := by
  intro d
  induction d with
  | zero =>
    intro i hi H
    exact pk_le k i (fun _ => H) (fun z => absurd z (by omega))
  | succ d ih =>
    intro i hi H
    refine pk_le k i (fun z => absurd z (by omega)) (fun _ => pr_xct hc hk (by omega) hpe hp hp2 hq ?_)
    cases e : pr_fF pe wc c p q i with
    | false =>
      rw [pr_all_f e] at H
      exact br_t rfl H
    | true =>
      rw [pr_all_t e] at H
      exact br_f pr_10 (nm_r (e' := nI (i + 1)) (nI_1 _) (ih (i + 1) (by omega) H))
theorem pr_xcf {post : Int32 → Prop} {c k p q : Nat} (hc : c < 4) (hk : k ≤ 8) (hct : ct c = nI k) (hpe : ∀ i, i < k → ∃ p, 1 ≤ p ∧ p ≤ 64 ∧ pe (c * 8 + i) = nI p) (hp : 1 ≤ p) (hp2 : p ≤ 32) (hq : q ≤ p)
    (H : post (pr_b (pr_all (pr_fF pe wc c p q) 0 k))) : wpX_coversFixedPriority post (hz, nw, ad, po, ct, sp, sb, pe, wc, re, ex, mi, le) (nI c) (nI p) (nI q) :=
  ⟨pr_i4 hc, nm_r (e' := nI k) (by rw [pr_cl (c := c) (by omega)]; exact hct) ⟨k + 1, pr_xcf11 hc hk hpe hp hp2 hq k 0 (by omega) H⟩⟩
theorem pr_yc80 {post : Int32 → Prop} {J : Int32 → Prop} {T c j p q : Nat} (hT : T ≤ 64) (hc : c < 4) (hj : j < 8) (hjT : pe (c * 8 + j) = nI T) (hpe : ∀ i, i < j + 1 → ¬ pe (c * 8 + i) = 0) (hp : 1 ≤ p) (hp2 : p ≤ 32) (hq : q ≤ p) :
    ∀ d i (f : Bool), i + d = T + 1 → ((f || pr_any (pr_fT pe wc c p q j) i d) = false → post 0) → ((f || pr_any (pr_fT pe wc c p q j) i d) = true → J (nI (j + 1))) →
      wY_covers_80 post J (nI c) (nI p) (nI q) (nI j) hz nw ad po ct sp sb mi le pe wc re ex (d + 1) (pr_b f) (nI i) := by
  have hin : vp_in (nI c * 8 + nI j) 32 := by rw [pr_sl]; exact pr_i32 hc (by omega)
  have hcl : (nI c * 8 + nI j).toNatClampNeg = c * 8 + j := by rw [pr_sl]; exact nI_clamp (by omega)
  have hpc : pe (nI c * 8 + nI j).toNatClampNeg = nI T := by rw [hcl]; exact hjT
  intro d
  induction d with
  | zero =>
    intro i f hi H0 H1
    refine ⟨hin, pk_lt T i (fun _ => ?_) (fun z => absurd z (by omega)) hpc⟩
    cases f with
    | false => exact br_t rfl (H0 rfl)
    | true => exact br_f pr_10 (nm_r (e' := nI (j + 1)) (nI_1 _) (H1 rfl))
  | succ d ih =>
    intro i f hi H0 H1
    refine ⟨hin, pk_lt T i (fun z => absurd z (by omega)) (fun _ => pr_yrbf hc hj hpe (pr_ysbf hp hp2 hq (by omega) (br_c (fun z => nm_r (e' := nI (i + 1)) (nI_1 _) (ih (i + 1) f (by omega) ?_ ?_)) (fun z => nm_r (e' := nI (i + 1)) (nI_1 _) (ih (i + 1) true (by omega) ?_ ?_))))) hpc⟩
    · rw [pr_any_f (decide_eq_false (fun y => y z))] at H0; exact H0
    · rw [pr_any_f (decide_eq_false (fun y => y z))] at H1; exact H1
    · intro y; exact absurd y (by intro w; cases w)
    · intro _
      rw [pr_any_t (decide_eq_true z), Bool.or_true] at H1
      exact H1 rfl
theorem pr_yc63 {post : Int32 → Prop} {c k p q : Nat} (hc : c < 4) (hk : k ≤ 8) (hct : ct c = nI k) (hpe : ∀ i, i < k → ∃ p, 1 ≤ p ∧ p ≤ 64 ∧ pe (c * 8 + i) = nI p) (hp : 1 ≤ p) (hp2 : p ≤ 32) (hq : q ≤ p) :
    ∀ d i, i + d = k → post (pr_b (pr_all (pr_fF pe wc c p q) i d)) → wY_covers_63 post (nI c) (nI p) (nI q) hz nw ad po ct sp sb mi le pe wc re ex (d + 1) (nI i) := by
  have hcc : ct (nI c).toNatClampNeg = nI k := by rw [pr_cl (c := c) (by omega)]; exact hct
  intro d
  induction d with
  | zero =>
    intro i hi H
    exact ⟨pr_i4 hc, pk_le k i (fun _ => H) (fun z => absurd z (by omega)) hcc⟩
  | succ d ih =>
    intro i hi H
    obtain ⟨T, h1, hT, e⟩ := hpe i (by omega)
    have eF : pr_fF pe wc c p q i = pr_any (pr_fT pe wc c p q i) 1 T := by
      show pr_any (pr_fT pe wc c p q i) 1 (pr_K pe (c * 8 + i)) = _
      rw [pr_Ke e (by omega)]
    refine ⟨pr_i4 hc, pk_le k i (fun z => absurd z (by omega)) (fun _ => ⟨T + 1, pr_yc80 hT hc (by omega) e (fun l hl => pr_nz hpe l (by omega)) hp hp2 hq T 1 false (by omega) ?_ ?_⟩) hcc⟩
    · intro y
      rw [Bool.false_or] at y
      rw [pr_all_f (eF.trans y)] at H
      exact H
    · intro y
      rw [Bool.false_or] at y
      rw [pr_all_t (eF.trans y)] at H
      exact ih (i + 1) (by omega) H
theorem pr_sb_le {p q t : Nat} (hq : q ≤ p) : pr_sb p q t ≤ t := by
  unfold pr_sb
  by_cases h : q = 0 ∨ t ≤ p - q
  · rw [if_pos h]; exact Nat.zero_le _
  · rw [if_neg h]
    have h1 : (t - (p - q)) / p * q ≤ (t - (p - q)) / p * p := Nat.mul_le_mul_left _ hq
    have h2 := Nat.div_add_mod' (t - (p - q)) p
    omega
theorem pr_cv0 {Hn c p q : Nat} (hH : Hn ≤ 256) (hq : q ≤ p) : pr_cv po pe wc Hn c 0 p q = true := by
  show (if po c = 1 then pr_all (pr_fF pe wc c p q) 0 0 else pr_all (pr_fD pe wc c 0 p q) 1 Hn) = true
  by_cases h : po c = 1
  · rw [if_pos h]; rfl
  · rw [if_neg h]
    have A : ∀ d i, i + d ≤ 1000 → pr_all (pr_fD pe wc c 0 p q) i d = true := by
      intro d
      induction d with
      | zero => intro i _; rfl
      | succ d ih =>
        intro i hi
        have h3 : pr_sb p q i ≤ i := pr_sb_le hq
        have h4 : pr_fD pe wc c 0 p q i = true := decide_eq_true (nI_pos' (n := pr_sb p q i) (by omega))
        rw [pr_all_t h4]
        exact ih (i + 1) (by omega)
    exact A Hn 1 (by omega)
theorem pr_ycv {post : Int32 → Prop} {Hn c k p q : Nat} (hH : Hn ≤ 256) (hc : c < 4) (hk : k ≤ 8) (hpo : po c = 0 ∨ po c = 1) (hct : ct c = nI k) (hpe : ∀ i, i < k → ∃ p, 1 ≤ p ∧ p ≤ 64 ∧ pe (c * 8 + i) = nI p) (hp : 1 ≤ p) (hp2 : p ≤ 32) (hq : q ≤ p)
    (H : post (pr_b (pr_cv po pe wc Hn c k p q))) : wpY_covers post (nI Hn, nw, ad, po, ct, sp, sb, mi, le, pe, wc, re, ex) (nI c) (nI p) (nI q) := by
  have hcl : (nI c).toNatClampNeg = c := nI_clamp (by omega)
  have hcc : ct (nI c).toNatClampNeg = nI k := by rw [hcl]; exact hct
  refine ⟨pr_i4 hc, pk_eq k 0 (fun z => ?_) (fun z => ⟨pr_i4 hc, ?_⟩) hcc⟩
  · subst z
    rw [pr_cv0 hH hq] at H
    exact H
  · rw [hcl]
    cases hpo with
    | inl h =>
      have e : pr_cv po pe wc Hn c k p q = pr_all (pr_fD pe wc c k p q) 1 Hn := if_neg (by rw [h]; decide)
      rw [e] at H
      exact br_t h ⟨Hn + 1, pr_yc23 hH hc hk hct (pr_nz hpe) hp hp2 hq Hn 1 (by omega) H⟩
    | inr h =>
      have e : pr_cv po pe wc Hn c k p q = pr_all (pr_fF pe wc c p q) 0 k := if_pos h
      rw [e] at H
      exact br_f (by rw [h]; decide) ⟨k + 1, pr_yc63 hc hk hct hpe hp hp2 hq k 0 (by omega) H⟩
/-! the least budget -/
theorem pr_xlb2 {post : Int32 → Prop} {Hn c k p : Nat} (hH : Hn ≤ 256) (hc : c < 4) (hk : k ≤ 8) (hpo : po c = 0 ∨ po c = 1) (hct : ct c = nI k) (hpe : ∀ i, i < k → ∃ p, 1 ≤ p ∧ p ≤ 64 ∧ pe (c * 8 + i) = nI p) (hp : 1 ≤ p) (hp2 : p ≤ 32) :
    ∀ d i, i + d = p + 1 → post (pr_ans (pr_ls (pr_cv po pe wc Hn c k p) i d)) → wX_leastBudget_2 post (nI c) (nI p) (nI Hn) nw ad po ct sp sb pe wc re ex mi le (d + 1) (nI i) := by
  have hcl : (nI c).toNatClampNeg = c := nI_clamp (by omega)
  intro d
  induction d with
  | zero =>
    intro i hi H
    exact pk_lt p i (fun _ => H) (fun z => absurd z (by omega))
  | succ d ih =>
    intro i hi H
    have W : wX_leastBudget_34 post (wX_leastBudget_2 post (nI c) (nI p) (nI Hn) nw ad po ct sp sb pe wc re ex mi le (d + 1)) (nI c) (nI p) (nI i) (pr_b (pr_cv po pe wc Hn c k p i)) (nI Hn) nw ad po ct sp sb pe wc re ex mi le := by
      cases e : pr_cv po pe wc Hn c k p i with
      | false =>
        rw [pr_ls_f e] at H
        exact br_t rfl (nm_r (e' := nI (i + 1)) (nI_1 _) (ih (i + 1) (by omega) H))
      | true =>
        rw [pr_ls_t e] at H
        exact br_f pr_10 H
    refine pk_lt p i (fun z => absurd z (by omega)) (fun _ => ⟨pr_i4 hc, ?_⟩)
    rw [hcl]
    cases hpo with
    | inl h =>
      have e : pr_cv po pe wc Hn c k p i = pr_all (pr_fD pe wc c k p i) 1 Hn := if_neg (by rw [h]; decide)
      rw [e] at W
      exact br_f (by rw [h]; decide) (pr_xcd hH hc hk hct (pr_nz hpe) hp hp2 (by omega) W)
    | inr h =>
      have e : pr_cv po pe wc Hn c k p i = pr_all (pr_fF pe wc c p i) 0 k := if_pos h
      rw [e] at W
      exact br_t h (pr_xcf hc hk hct hpe hp hp2 (by omega) W)
theorem pr_xlb {post : Int32 → Prop} {Hn c k p : Nat} (hH : Hn ≤ 256) (hc : c < 4) (hk : k ≤ 8) (hpo : po c = 0 ∨ po c = 1) (hct : ct c = nI k) (hpe : ∀ i, i < k → ∃ p, 1 ≤ p ∧ p ≤ 64 ∧ pe (c * 8 + i) = nI p) (hp : 1 ≤ p) (hp2 : p ≤ 32)
    (H : post (pr_ans (pr_ls (pr_cv po pe wc Hn c k p) 0 (p + 1)))) : wpX_leastBudget post (nI Hn, nw, ad, po, ct, sp, sb, pe, wc, re, ex, mi, le) (nI c) (nI p) :=
  ⟨p + 1 + 1, pr_xlb2 hH hc hk hpo hct hpe hp hp2 (p + 1) 0 (by omega) H⟩
end PR05
end
section
section PR06
variable {hz nw ad : Int32} {po ct sp sb pe wc re ex mi le : Nat → Int32}
/-! the arguments -/
theorem pr_xcomp {post : Int32 → Prop} {x : Int32} (h0 : ¬ (∃ c, c < 4 ∧ x = nI c) → post 0) (h1 : ∀ c, c < 4 → x = nI c → post 1) : wpX_isComponent post x := by
  refine br_c (fun z => h0 ?_) (fun z => br_c (fun z2 => h0 ?_) (fun z2 => ?_))
  · rintro ⟨c, hc, rfl⟩; exact nI_pos (by omega) z
  · rintro ⟨c, hc, rfl⟩; exact nI_ge (b := 4) hc (by decide) z2
  · obtain ⟨j, hj, rfl⟩ := nI_of z
    have h : j < 4 := by
      have h5 : ¬ nI 4 ≤ nI j := z2
      rw [nI_leI (by omega) hj] at h5
      omega
    exact h1 j h rfl
/-! Y's test of the component -/
theorem pr_ycomp {A B C : Prop} {x : Int32} (h0 : ¬ (∃ c, c < 4 ∧ x = nI c) → A ∧ C) (h1 : ∀ c, c < 4 → x = nI c → B) : (x < 0 → A) ∧ (¬ x < 0 → (x ≤ 3 → B) ∧ (¬ x ≤ 3 → C)) := by
  refine br_c (fun z => (h0 ?_).1) (fun z => br_c (fun z2 => ?_) (fun z2 => (h0 ?_).2))
  · rintro ⟨c, hc, rfl⟩; exact nI_pos (by omega) z
  · obtain ⟨j, hj, rfl⟩ := nI_of z
    have h : j < 4 := by
      have h5 : nI j ≤ nI 3 := z2
      rw [nI_leI hj (by omega)] at h5
      omega
    exact h1 j h rfl
  · rintro ⟨c, hc, rfl⟩; exact z2 (nI_le (b := 3) (by omega) (by decide))
/-! the invariant over stores -/
theorem pr_C_pol {c0 : Nat} {x : Int32} (hx : x = 0 ∨ x = 1) (I : ∀ c, c < 4 → pr_C po ct sp sb pe c) : ∀ c, c < 4 → pr_C (upd po c0 x) ct sp sb pe c := by
  intro c hc
  obtain ⟨h1, h2⟩ := I c hc
  refine ⟨?_, h2⟩
  by_cases e : c = c0
  · subst e; rw [pk_us]; exact hx
  · rw [pk_un e]; exact h1
theorem pr_C_if {c0 p q : Nat} (hp : p ≤ 32) (hq : q ≤ p) (I : ∀ c, c < 4 → pr_C po ct sp sb pe c) : ∀ c, c < 4 → pr_C po ct (upd sp c0 (nI p)) (upd sb c0 (nI q)) pe c := by
  intro c hc
  obtain ⟨h1, h2, h3⟩ := I c hc
  refine ⟨h1, h2, ?_⟩
  by_cases e : c = c0
  · subst e; rw [pk_us, pk_us]; exact ⟨p, q, hp, hq, rfl, rfl⟩
  · rw [pk_un e, pk_un e]; exact h3
theorem pr_C_rm {c0 : Nat} (I : ∀ c, c < 4 → pr_C po ct sp sb pe c) : ∀ c, c < 4 → pr_C po ct (upd sp c0 0) (upd sb c0 0) pe c :=
  pr_C_if (p := 0) (q := 0) (by omega) (by omega) I
theorem pr_C_add {c0 k p : Nat} (h0 : c0 < 4) (hk : k < 8) (hct : ct c0 = nI k) (hp : 1 ≤ p) (hp2 : p ≤ 64) (I : ∀ c, c < 4 → pr_C po ct sp sb pe c) : ∀ c, c < 4 → pr_C po (upd ct c0 (nI (k + 1))) sp sb (upd pe (c0 * 8 + k) (nI p)) c := by
  intro c hc
  obtain ⟨h1, ⟨k1, hk1, hct1, hpe⟩, h3⟩ := I c hc
  refine ⟨h1, ?_, h3⟩
  by_cases e : c = c0
  · subst e
    rw [pk_us]
    have ek : k1 = k := by
      have := (nI_eq (by omega) (by omega)).mp (hct1.symm.trans hct)
      exact this
    subst ek
    refine ⟨k1 + 1, by omega, rfl, fun i hi => ?_⟩
    by_cases e2 : i = k1
    · subst e2; exact ⟨p, hp, hp2, pk_us⟩
    · rw [pk_un (by omega)]; exact hpe i (by omega)
  · rw [pk_un e]
    refine ⟨k1, hk1, hct1, fun i hi => ?_⟩
    rw [pk_un (by omega)]; exact hpe i hi
theorem pr_C_sub {c0 k : Nat} (h0 : c0 < 4) (hct : ct c0 = nI (k + 1)) (hk : k < 8) (I : ∀ c, c < 4 → pr_C po ct sp sb pe c) : ∀ c, c < 4 → pr_C po (upd ct c0 (nI k)) sp sb pe c := by
  intro c hc
  obtain ⟨h1, ⟨k1, hk1, hct1, hpe⟩, h3⟩ := I c hc
  refine ⟨h1, ?_, h3⟩
  by_cases e : c = c0
  · subst e
    rw [pk_us]
    have ek : k1 = k + 1 := (nI_eq (by omega) (by omega)).mp (hct1.symm.trans hct)
    exact ⟨k, by omega, rfl, fun i hi => hpe i (by omega)⟩
  · rw [pk_un e]; exact ⟨k1, hk1, hct1, hpe⟩
theorem pr_xrmif {post : SX → Prop} {c : Nat} (hc : c < 4) (H : post (hz, nw, ad, po, ct, upd sp c 0, upd sb c 0, pe, wc, re, ex, mi, le)) : wpX_removeInterface post (hz, nw, ad, po, ct, sp, sb, pe, wc, re, ex, mi, le) (nI c) := by
  have hcl : (nI c).toNatClampNeg = c := nI_clamp (by omega)
  exact ⟨pr_i4 hc, nm_r (by rw [hcl]) ⟨pr_i4 hc, nm_r (by rw [hcl]) H⟩⟩
end PR06
end
section
section PR07
/-- both keep the same fields and arrays, in ranges -/
def i_Rel (_ : Nat) (u : SX) (v : SY) : Prop :=
  ∃ (hz nw ad : Int32) (po ct sp sb pe wc re ex mi le : Nat → Int32), u = (hz, nw, ad, po, ct, sp, sb, pe, wc, re, ex, mi, le) ∧ v = (hz, nw, ad, po, ct, sp, sb, mi, le, pe, wc, re, ex) ∧ pr_Inv hz nw ad po ct sp sb pe
theorem i_up {k : Nat} {u : SX} {v : SY} (h : i_Rel k u v) : i_Rel (k + 4) u v := h
variable {hz nw ad : Int32} {po ct sp sb pe wc re ex mi le : Nat → Int32}
theorem pr_rel {k : Nat} (I : pr_Inv hz nw ad po ct sp sb pe) : i_Rel k (hz, nw, ad, po, ct, sp, sb, pe, wc, re, ex, mi, le) (hz, nw, ad, po, ct, sp, sb, mi, le, pe, wc, re, ex) :=
  ⟨hz, nw, ad, po, ct, sp, sb, pe, wc, re, ex, mi, le, rfl, rfl, I⟩
theorem pr_inv0 {H : Nat} (h1 : 64 ≤ H) (h2 : H ≤ 256) (ha : ad = 0 ∨ ad = 1) (I : ∀ c, c < 4 → pr_C po ct sp sb pe c) : pr_Inv (nI H) 0 ad po ct sp sb pe :=
  ⟨⟨H, 0, rfl, rfl, h1, h2, Nat.zero_le _⟩, ha, I⟩
theorem pr_C0 : ∀ c, c < 4 → pr_C (fun _ => 0) (fun _ => 0) (fun _ => 0) (fun _ => 0) (fun _ => 0) c := by
  intro c hc
  exact ⟨Or.inl rfl, ⟨0, by omega, rfl, fun i hi => absurd hi (by omega)⟩, ⟨0, 0, by omega, by omega, rfl, rfl⟩⟩
theorem i_vc0 (k0 : Int32) : wpX_init (fun u => wpY_init (fun v => i_Rel 1 u v) k0) k0 := by
  by_cases a : (64 : Int32) ≤ k0
  · by_cases b : k0 ≤ 256
    · have n0 : ¬ k0 < 0 := fun z => absurd (Int32.lt_of_le_of_lt a z) (by decide)
      obtain ⟨H, hH, rfl⟩ := nI_of n0
      have h1 : 64 ≤ H := (nI_leI (a := 64) (by omega) hH).mp a
      have h2 : H ≤ 256 := (nI_leI (b := 256) hH (by omega)).mp b
      unfold wpX_init
      refine br_t a (br_t b ?_)
      refine pr_xinval pr_C0 ?_
      exact br_t a (br_t b (pr_yreset pr_C0 (pr_rel (pr_inv0 h1 h2 (Or.inl rfl) pr_C0))))
    · unfold wpX_init
      refine br_t a (br_f b ?_)
      refine pr_xinval pr_C0 ?_
      exact br_t a (br_f b (pr_yreset pr_C0 (pr_rel (pr_inv0 (H := 256) (by omega) (by omega) (Or.inl rfl) pr_C0))))
  · unfold wpX_init
    refine br_f a ?_
    refine pr_xinval pr_C0 ?_
    exact br_f a (br_t (by decide) (pr_yreset pr_C0 (pr_rel (pr_inv0 (H := 64) (by omega) (by omega) (Or.inl rfl) pr_C0))))
/-! Y's component test, passed -/
theorem pr_yc {A B C : Prop} {c : Nat} (hc : c < 4) (b : B) : (nI c < 0 → A) ∧ (¬ nI c < 0 → (nI c ≤ 3 → B) ∧ (¬ nI c ≤ 3 → C)) :=
  br_f (nI_pos (by omega)) (br_t (nI_le (b := 3) (by omega) (by decide)) b)
theorem pr_yn {A B C : Prop} {x : Int32} (h : ¬ ∃ c, c < 4 ∧ x = nI c) (a : A) (c : C) : (x < 0 → A) ∧ (¬ x < 0 → (x ≤ 3 → B) ∧ (¬ x ≤ 3 → C)) :=
  pr_ycomp (fun _ => ⟨a, c⟩) (fun c hc e => absurd ⟨c, hc, e⟩ h)
/-! setPolicy -/
theorem pr_xsp18 {post : Int32 → SX → Prop} {c : Nat} {x : Int32} (hc : c < 4) (hx : x = 0 ∨ x = 1) (I : ∀ c, c < 4 → pr_C po ct sp sb pe c)
    (H : post 1 (hz, 0, 0, upd po c x, ct, upd sp c 0, upd sb c 0, pe, wc, pr_rsR wc ct re 4, pr_rsR (fun _ => 0) ct ex 4, pr_fill (fun _ => 0) mi 0 4, pr_fill (pr_rsL (upd sp c 0) (upd sb c 0)) le 0 4)) :
    wX_setPolicy_18 post (nI c) x hz nw ad po ct sp sb pe wc re ex mi le := by
  have hcl : (nI c).toNatClampNeg = c := nI_clamp (by omega)
  refine ⟨pr_i4 hc, nm_r (e' := upd po c x) (by rw [hcl]) ?_⟩
  refine pr_xrmif hc ?_
  exact pr_xinval (pr_C_rm (pr_C_pol hx I)) H
theorem pr_ysp22 {post : Int32 → SY → Prop} {c : Nat} {x : Int32} (hc : c < 4) (hx : x = 0 ∨ x = 1) (I : ∀ c, c < 4 → pr_C po ct sp sb pe c)
    (H : post 1 (hz, 0, 0, upd po c x, ct, upd sp c 0, upd sb c 0, pr_fill (fun _ => 0) mi 0 4, pr_fill (pr_rsL (upd sp c 0) (upd sb c 0)) le 0 4, pe, wc, pr_rsR wc ct re 4, pr_rsR (fun _ => 0) ct ex 4)) :
    wY_setPolicy_22 post (nI c) x hz nw ad po ct sp sb mi le pe wc re ex := by
  have hcl : (nI c).toNatClampNeg = c := nI_clamp (by omega)
  refine ⟨pr_i4 hc, nm_r (e' := upd po c x) (by rw [hcl]) ⟨pr_i4 hc, nm_r (e' := upd sp c 0) (by rw [hcl]) ⟨pr_i4 hc, nm_r (e' := upd sb c 0) (by rw [hcl]) ?_⟩⟩⟩
  exact pr_yreset (pr_C_rm (pr_C_pol hx I)) H
theorem i_vc_setPolicy {k : Nat} {u : SX} {v : SY} (I : i_Rel k u v) (hk : k + 4 ≤ 2049) (v1 : Int32) (v2 : Int32) : wpX_setPolicy (fun r u' => wpY_setPolicy (fun r' v' => r' = r ∧ i_Rel (k + 4) u' v') v v1 v2) u v1 v2 := by
  obtain ⟨hz, nw, ad, po, ct, sp, sb, pe, wc, re, ex, mi, le, rfl, rfl, J⟩ := I
  have R : i_Rel (k + 4) (hz, nw, ad, po, ct, sp, sb, pe, wc, re, ex, mi, le) (hz, nw, ad, po, ct, sp, sb, mi, le, pe, wc, re, ex) := pr_rel J
  obtain ⟨⟨H, t, rfl, rfl, h1, h2, h3⟩, ha, I⟩ := J
  unfold wpX_setPolicy
  refine pr_xcomp (fun z => br_t rfl (pr_yn z ⟨rfl, R⟩ ⟨rfl, R⟩)) (fun c hc e => br_f pr_10 ?_)
  subst e
  by_cases a : v2 = 0
  · refine br_t a (pr_xsp18 hc (Or.inl a) I ?_)
    exact pr_yc hc (br_t a (pr_ysp22 hc (Or.inl a) I ⟨rfl, pr_rel (pr_inv0 h1 h2 (Or.inl rfl) (pr_C_rm (pr_C_pol (Or.inl a) I)))⟩))
  · by_cases b : v2 = 1
    · refine br_f a (br_t b (pr_xsp18 hc (Or.inr b) I ?_))
      exact pr_yc hc (br_f a (br_t b (pr_ysp22 hc (Or.inr b) I ⟨rfl, pr_rel (pr_inv0 h1 h2 (Or.inl rfl) (pr_C_rm (pr_C_pol (Or.inr b) I)))⟩)))
    · exact br_f a (br_f b (pr_yc hc (br_f a (br_f b ⟨rfl, R⟩))))
/-! addTask -/
theorem i_vc_addTask {k : Nat} {u : SX} {v : SY} (I : i_Rel k u v) (hk : k + 4 ≤ 2049) (v1 : Int32) (v2 : Int32) (v3 : Int32) : wpX_addTask (fun r u' => wpY_addTask (fun r' v' => r' = r ∧ i_Rel (k + 4) u' v') v v1 v2 v3) u v1 v2 v3 := by
  obtain ⟨hz, nw, ad, po, ct, sp, sb, pe, wc, re, ex, mi, le, rfl, rfl, J⟩ := I
  have R : i_Rel (k + 4) (hz, nw, ad, po, ct, sp, sb, pe, wc, re, ex, mi, le) (hz, nw, ad, po, ct, sp, sb, mi, le, pe, wc, re, ex) := pr_rel J
  obtain ⟨⟨H, t, rfl, rfl, h1, h2, h3⟩, ha, I⟩ := J
  unfold wpX_addTask
  refine pr_xcomp (fun z => br_t rfl (pr_yn z ⟨rfl, R⟩ ⟨rfl, R⟩)) (fun c hc e => br_f pr_10 ?_)
  subst e
  have hcl : (nI c).toNatClampNeg = c := nI_clamp (by omega)
  by_cases a1 : v2 < 1
  · exact br_t a1 (pr_yc hc (br_t a1 ⟨rfl, R⟩))
  refine br_f a1 ?_
  by_cases a2 : 64 < v2
  · exact br_t a2 (pr_yc hc (br_f a1 (br_f (Int32.not_le.mpr a2) ⟨rfl, R⟩)))
  have a2' : v2 ≤ 64 := Int32.not_lt.mp a2
  refine br_f a2 ?_
  by_cases a3 : v3 < 1
  · exact br_t a3 (pr_yc hc (br_f a1 (br_t a2' (br_t a3 ⟨rfl, R⟩))))
  refine br_f a3 ?_
  by_cases a4 : v2 < v3
  · exact br_t a4 (pr_yc hc (br_f a1 (br_t a2' (br_f a3 (br_f (Int32.not_le.mpr a4) ⟨rfl, R⟩)))))
  have a4' : v3 ≤ v2 := Int32.not_lt.mp a4
  refine br_f a4 ?_
  obtain ⟨-, ⟨n, hn, hct, -⟩, -⟩ := I c hc
  have hcc : ct (nI c).toNatClampNeg = nI n := by rw [hcl]; exact hct
  refine ⟨pr_i4 hc, pk_lt n 8 (fun z => ?_) (fun z => ?_) hcc⟩
  · have n0 : ¬ v2 < 0 := fun z => a1 (Int32.lt_trans z (by decide))
    obtain ⟨p, hp, rfl⟩ := nI_of n0
    have hp1 : 1 ≤ p := by
      have h5 : ¬ nI p < nI 1 := a1
      rw [nI_ltI hp (by omega)] at h5
      omega
    have hp2 : p ≤ 64 := (nI_leI (b := 64) hp (by omega)).mp a2'
    have II : ∀ d, d < 4 → pr_C po (upd ct c (nI (n + 1))) (upd sp c 0) (upd sb c 0) (upd pe (c * 8 + n) (nI p)) d := pr_C_rm (pr_C_add hc z hct hp1 hp2 I)
    have hin : vp_in (nI (c * 8 + n)) 32 := pr_i32 hc z
    have hsl : (nI (c * 8 + n)).toNatClampNeg = c * 8 + n := nI_clamp (by omega)
    refine ⟨pr_i4 hc, nm_r (e' := nI n) hcc (nm_r (e' := nI (c * 8 + n)) (pr_sl c n) ⟨hin, nm_r (e' := upd pe (c * 8 + n) (nI p)) (by rw [hsl]) ⟨hin, nm_r (e' := upd wc (c * 8 + n) v3) (by rw [hsl]) ⟨pr_i4 hc, nm_r (e' := upd ct c (nI (n + 1))) (by rw [hcl, nI_1]) ?_⟩⟩⟩)⟩
    refine pr_xrmif hc ?_
    refine pr_xinval II ?_
    have hin' : vp_in (nI c * 8 + nI n) 32 := by rw [pr_sl]; exact hin
    have hsl' : (nI c * 8 + nI n).toNatClampNeg = c * 8 + n := by rw [pr_sl]; exact hsl
    exact pr_yc hc (br_f a1 (br_t a2' (br_f a3 (br_t a4' ⟨pr_i4 hc, pk_lt n 8 (fun _ => ⟨pr_i4 hc, nm_r (e' := nI n) hcc ⟨hin', nm_r (e' := upd pe (c * 8 + n) (nI p)) (by rw [hsl']) ⟨hin', nm_r (e' := upd wc (c * 8 + n) v3) (by rw [hsl']) ⟨pr_i4 hc, nm_r (e' := upd ct c (nI (n + 1))) (by rw [hcl, nI_1]) ⟨pr_i4 hc, nm_r (e' := upd sp c 0) (by rw [hcl]) ⟨pr_i4 hc, nm_r (e' := upd sb c 0) (by rw [hcl]) (pr_yreset II ⟨rfl, pr_rel (pr_inv0 h1 h2 (Or.inl rfl) II)⟩)⟩⟩⟩⟩⟩⟩) (fun y => absurd z (by omega)) hcc⟩))))
  · exact pr_yc hc (br_f a1 (br_t a2' (br_f a3 (br_t a4' ⟨pr_i4 hc, pk_lt n 8 (fun y => absurd y (by omega)) (fun _ => ⟨rfl, R⟩) hcc⟩))))
/-! removeLastTask -/
theorem i_vc_removeLastTask {k : Nat} {u : SX} {v : SY} (I : i_Rel k u v) (hk : k + 4 ≤ 2049) (v1 : Int32) : wpX_removeLastTask (fun r u' => wpY_removeLastTask (fun r' v' => r' = r ∧ i_Rel (k + 4) u' v') v v1) u v1 := by
  obtain ⟨hz, nw, ad, po, ct, sp, sb, pe, wc, re, ex, mi, le, rfl, rfl, J⟩ := I
  have R : i_Rel (k + 4) (hz, nw, ad, po, ct, sp, sb, pe, wc, re, ex, mi, le) (hz, nw, ad, po, ct, sp, sb, mi, le, pe, wc, re, ex) := pr_rel J
  obtain ⟨⟨H, t, rfl, rfl, h1, h2, h3⟩, ha, I⟩ := J
  unfold wpX_removeLastTask
  refine pr_xcomp (fun z => br_t rfl (pr_yn z ⟨rfl, R⟩ ⟨rfl, R⟩)) (fun c hc e => br_f pr_10 ?_)
  subst e
  have hcl : (nI c).toNatClampNeg = c := nI_clamp (by omega)
  obtain ⟨-, ⟨n, hn, hct, -⟩, -⟩ := I c hc
  have hcc : ct (nI c).toNatClampNeg = nI n := by rw [hcl]; exact hct
  refine ⟨pr_i4 hc, pk_le 1 n (fun z => ?_) (fun z => ?_) rfl hcc⟩
  · obtain ⟨m, rfl⟩ : ∃ m, n = m + 1 := ⟨n - 1, by omega⟩
    have II : ∀ d, d < 4 → pr_C po (upd ct c (nI m)) (upd sp c 0) (upd sb c 0) pe d := pr_C_rm (pr_C_sub hc hct (by omega) I)
    have hup : upd ct (nI c).toNatClampNeg (ct (nI c).toNatClampNeg - 1) = upd ct c (nI m) := by rw [hcc, hcl, nI_pred]
    refine ⟨pr_i4 hc, pr_i4 hc, nm_r (e' := upd ct c (nI m)) hup ?_⟩
    refine pr_xrmif hc ?_
    refine pr_xinval II ?_
    exact pr_yc hc ⟨pr_i4 hc, pk_le 1 (m + 1) (fun _ => ⟨pr_i4 hc, pr_i4 hc, nm_r (e' := upd ct c (nI m)) hup ⟨pr_i4 hc, nm_r (e' := upd sp c 0) (by rw [hcl]) ⟨pr_i4 hc, nm_r (e' := upd sb c 0) (by rw [hcl]) (pr_yreset II ⟨rfl, pr_rel (pr_inv0 h1 h2 (Or.inl rfl) II)⟩)⟩⟩⟩) (fun y => absurd y (by omega)) rfl hcc⟩
  · exact pr_yc hc ⟨pr_i4 hc, pk_le 1 n (fun y => absurd y (by omega)) (fun _ => ⟨rfl, R⟩) rfl hcc⟩
/-! computeInterface -/
theorem pr_xper {post : Int32 → Prop} {x : Int32} (h0 : ¬ (∃ p, 1 ≤ p ∧ p ≤ 32 ∧ x = nI p) → post 0) (h1 : ∀ p, 1 ≤ p → p ≤ 32 → x = nI p → post 1) : wpX_isInterfacePeriod post x := by
  refine br_c (fun z => h0 ?_) (fun z => br_c (fun z2 => h0 ?_) (fun z2 => ?_))
  · rintro ⟨p, hp, hp2, rfl⟩; exact nI_nlt (b := 1) hp (by omega) z
  · rintro ⟨p, hp, hp2, rfl⟩; exact nI_nlt (a := 32) hp2 (by omega) z2
  · have n0 : ¬ x < 0 := fun y => z (Int32.lt_trans y (by decide))
    obtain ⟨p, hp, rfl⟩ := nI_of n0
    have hp1 : 1 ≤ p := by
      have h5 : ¬ nI p < nI 1 := z
      rw [nI_ltI hp (by omega)] at h5
      omega
    have hp2 : p ≤ 32 := by
      have h5 : ¬ nI 32 < nI p := z2
      rw [nI_ltI (by omega) hp] at h5
      omega
    exact h1 p hp1 hp2 rfl
theorem pr_yper {A B C : Prop} {p : Nat} (hp : 1 ≤ p) (hp2 : p ≤ 32) (b : B) : (nI p < 1 → A) ∧ (¬ nI p < 1 → (nI p ≤ 32 → B) ∧ (¬ nI p ≤ 32 → C)) :=
  br_f (nI_nlt (b := 1) hp (by omega)) (br_t (nI_le (b := 32) hp2 (by decide)) b)
theorem pr_yper0 {A B C : Prop} {x : Int32} (h : ¬ ∃ p, 1 ≤ p ∧ p ≤ 32 ∧ x = nI p) (a : A) (c : C) : (x < 1 → A) ∧ (¬ x < 1 → (x ≤ 32 → B) ∧ (¬ x ≤ 32 → C)) := by
  refine br_c (fun _ => a) (fun z => br_c (fun z2 => ?_) (fun _ => c))
  exfalso
  have n0 : ¬ x < 0 := fun y => z (Int32.lt_trans y (by decide))
  obtain ⟨p, hp, rfl⟩ := nI_of n0
  have h5 : ¬ nI p < nI 1 := z
  rw [nI_ltI hp (by omega)] at h5
  have h6 : nI p ≤ nI 32 := z2
  rw [nI_leI hp (by omega)] at h6
  exact h ⟨p, by omega, h6, rfl⟩
theorem pr_m1n : ¬ (0 : Int32) ≤ -1 := by decide
theorem pr_ansne {q : Nat} (hq : q < 2 ^ 31) : ¬ nI q = -2 := by
  intro e
  have h := nI_pos (n := q) hq
  rw [e] at h
  exact h (by decide)
theorem pr_yci1 {post : Int32 → SY → Prop} {c p q : Nat} (hc : c < 4) (hp2 : p ≤ 32) (hq : q ≤ p) (I : ∀ c, c < 4 → pr_C po ct sp sb pe c)
    (H : post (nI q) (hz, 0, 0, po, ct, upd sp c (nI p), upd sb c (nI q), pr_fill (fun _ => 0) mi 0 4, pr_fill (pr_rsL (upd sp c (nI p)) (upd sb c (nI q))) le 0 4, pe, wc, pr_rsR wc ct re 4, pr_rsR (fun _ => 0) ct ex 4)) :
    ∀ d i, i + d = p + 1 → wY_computeInterface_29 post (nI c) (nI p) hz nw ad po ct sp sb mi le pe wc re ex (d + 1) (nI q) (nI i) := by
  have hcl : (nI c).toNatClampNeg = c := nI_clamp (by omega)
  intro d
  induction d with
  | zero =>
    intro i hi
    refine pk_lt p i (fun _ => br_f (nI_pos (by omega)) ⟨pr_i4 hc, nm_r (e' := upd sp c (nI p)) (by rw [hcl]) ⟨pr_i4 hc, nm_r (e' := upd sb c (nI q)) (by rw [hcl]) ?_⟩⟩) (fun z => absurd z (by omega))
    unfold wY_computeInterface_101
    exact pr_yreset (pr_C_if hp2 hq I) H
  | succ d ih =>
    intro i hi
    exact pk_lt p i (fun z => absurd z (by omega)) (fun _ => br_t (nI_pos' (by omega)) (nm_r (e' := nI (i + 1)) (nI_1 _) (ih (i + 1) (by omega))))
theorem pr_yci0 {post : Int32 → SY → Prop} {Hn c k p : Nat} (hH : Hn ≤ 256) (hc : c < 4) (hk : k ≤ 8) (hpo : po c = 0 ∨ po c = 1) (hct : ct c = nI k) (hpe : ∀ i, i < k → ∃ p, 1 ≤ p ∧ p ≤ 64 ∧ pe (c * 8 + i) = nI p) (hp : 1 ≤ p) (hp2 : p ≤ 32) (I : ∀ c, c < 4 → pr_C po ct sp sb pe c) :
    ∀ d i, i + d = p + 1 →
      (pr_ls (pr_cv po pe wc Hn c k p) i d = none → post (-2) (nI Hn, 0, 0, po, ct, upd sp c 0, upd sb c 0, pr_fill (fun _ => 0) mi 0 4, pr_fill (pr_rsL (upd sp c 0) (upd sb c 0)) le 0 4, pe, wc, pr_rsR wc ct re 4, pr_rsR (fun _ => 0) ct ex 4)) →
      (∀ q, pr_ls (pr_cv po pe wc Hn c k p) i d = some q → post (nI q) (nI Hn, 0, 0, po, ct, upd sp c (nI p), upd sb c (nI q), pr_fill (fun _ => 0) mi 0 4, pr_fill (pr_rsL (upd sp c (nI p)) (upd sb c (nI q))) le 0 4, pe, wc, pr_rsR wc ct re 4, pr_rsR (fun _ => 0) ct ex 4)) →
      wY_computeInterface_29 post (nI c) (nI p) (nI Hn) nw ad po ct sp sb mi le pe wc re ex (d + 1) (-1) (nI i) := by
  have hcl : (nI c).toNatClampNeg = c := nI_clamp (by omega)
  intro d
  induction d with
  | zero =>
    intro i hi H0 H1
    refine pk_lt p i (fun _ => br_t (by decide) ⟨pr_i4 hc, nm_r (e' := upd sp c 0) (by rw [hcl]) ⟨pr_i4 hc, nm_r (e' := upd sb c 0) (by rw [hcl]) ?_⟩⟩) (fun z => absurd z (by omega))
    unfold wY_computeInterface_101
    exact pr_yreset (pr_C_rm I) (H0 rfl)
  | succ d ih =>
    intro i hi H0 H1
    refine pk_lt p i (fun z => absurd z (by omega)) (fun _ => br_f pr_m1n (pr_ycv hH hc hk hpo hct hpe hp hp2 (by omega) ?_))
    cases e : pr_cv po pe wc Hn c k p i with
    | false =>
      rw [pr_ls_f e] at H0 H1
      exact br_t rfl (nm_r (e' := nI (i + 1)) (nI_1 _) (ih (i + 1) (by omega) H0 H1))
    | true =>
      rw [pr_ls_t e] at H1
      exact br_f pr_10 (nm_r (e' := nI (i + 1)) (nI_1 _) (pr_yci1 hc hp2 (by omega) I (H1 i rfl) d (i + 1) (by omega)))
theorem i_vc_computeInterface {k : Nat} {u : SX} {v : SY} (I : i_Rel k u v) (hk : k + 4 ≤ 2049) (v1 : Int32) (v2 : Int32) : wpX_computeInterface (fun r u' => wpY_computeInterface (fun r' v' => r' = r ∧ i_Rel (k + 4) u' v') v v1 v2) u v1 v2 := by
  obtain ⟨hz, nw, ad, po, ct, sp, sb, pe, wc, re, ex, mi, le, rfl, rfl, J⟩ := I
  have R : i_Rel (k + 4) (hz, nw, ad, po, ct, sp, sb, pe, wc, re, ex, mi, le) (hz, nw, ad, po, ct, sp, sb, mi, le, pe, wc, re, ex) := pr_rel J
  obtain ⟨⟨H, t, rfl, rfl, h1, h2, h3⟩, ha, I⟩ := J
  unfold wpX_computeInterface
  refine pr_xcomp (fun z => br_t rfl (pr_yn z ⟨rfl, R⟩ ⟨rfl, R⟩)) (fun c hc e => br_f pr_10 ?_)
  subst e
  have hcl : (nI c).toNatClampNeg = c := nI_clamp (by omega)
  refine pr_xper (fun z => br_t rfl (pr_yc hc (pr_yper0 z ⟨rfl, R⟩ ⟨rfl, R⟩))) (fun p hp hp2 e => br_f pr_10 ?_)
  subst e
  obtain ⟨hpo, ⟨n, hn, hct, hpe⟩, -⟩ := I c hc
  refine pr_xlb h2 hc hn hpo hct hpe hp hp2 ?_
  cases e : pr_ls (pr_cv po pe wc H c n p) 0 (p + 1) with
  | none =>
    refine br_t rfl (pr_xrmif hc ?_)
    refine pr_xinval (pr_C_rm I) ?_
    refine pr_yc hc (pr_yper hp hp2 ⟨p + 1 + 1, pr_yci0 h2 hc hn hpo hct hpe hp hp2 I (p + 1) 0 (by omega) (fun _ => ⟨rfl, pr_rel (pr_inv0 h1 h2 (Or.inl rfl) (pr_C_rm I))⟩) (fun q y => ?_)⟩)
    rw [e] at y
    cases y
  | some q =>
    have hq := pr_ls_in _ _ _ e
    refine br_f (pr_ansne (by omega)) ⟨pr_i4 hc, nm_r (e' := upd sp c (nI p)) (by rw [hcl]) ⟨pr_i4 hc, nm_r (e' := upd sb c (nI q)) (by rw [hcl]; rfl) ?_⟩⟩
    refine pr_xinval (pr_C_if hp2 (by omega) I) ?_
    refine pr_yc hc (pr_yper hp hp2 ⟨p + 1 + 1, pr_yci0 h2 hc hn hpo hct hpe hp hp2 I (p + 1) 0 (by omega) (fun y => ?_) (fun q' y => ?_)⟩)
    · rw [e] at y
      cases y
    · rw [e] at y
      cases y
      exact ⟨rfl, pr_rel (pr_inv0 h1 h2 (Or.inl rfl) (pr_C_if hp2 (by omega) I))⟩
end PR07
end
section
section PR08
/-! the sum of the bandwidths, two ways -/
def pr_pd (P : Nat → Nat) : Nat → Nat
  | 0 => 1
  | c + 1 => if P c = 0 then pr_pd P c else pr_pd P c * P c
def pr_us (P Q : Nat → Nat) : Nat → Nat
  | 0 => 0
  | c + 1 => if P c = 0 then pr_us P Q c else pr_us P Q c * P c + Q c * pr_pd P c
def pr_sm (P Q : Nat → Nat) (W : Nat) : Nat → Nat
  | 0 => 0
  | c + 1 => if P c = 0 then pr_sm P Q W c else pr_sm P Q W c + Q c * (W / P c)
theorem pr_pd0 {P : Nat → Nat} {c : Nat} (h : P c = 0) : pr_pd P (c + 1) = pr_pd P c := if_pos h
theorem pr_pd1 {P : Nat → Nat} {c : Nat} (h : ¬ P c = 0) : pr_pd P (c + 1) = pr_pd P c * P c := if_neg h
theorem pr_us0 {P Q : Nat → Nat} {c : Nat} (h : P c = 0) : pr_us P Q (c + 1) = pr_us P Q c := if_pos h
theorem pr_us1 {P Q : Nat → Nat} {c : Nat} (h : ¬ P c = 0) : pr_us P Q (c + 1) = pr_us P Q c * P c + Q c * pr_pd P c := if_neg h
theorem pr_sm0 {P Q : Nat → Nat} {W c : Nat} (h : P c = 0) : pr_sm P Q W (c + 1) = pr_sm P Q W c := if_pos h
theorem pr_sm1 {P Q : Nat → Nat} {W c : Nat} (h : ¬ P c = 0) : pr_sm P Q W (c + 1) = pr_sm P Q W c + Q c * (W / P c) := if_neg h
theorem pr_pdv {P : Nat → Nat} : ∀ n i, i < n → ¬ P i = 0 → P i ∣ pr_pd P n := by
  intro n
  induction n with
  | zero => intro i hi; exact absurd hi (by omega)
  | succ n ih =>
    intro i hi h
    by_cases z : P n = 0
    · rw [pr_pd0 z]
      by_cases e : i = n
      · subst e; exact absurd z h
      · exact ih i (by omega) h
    · rw [pr_pd1 z]
      by_cases e : i = n
      · subst e; exact Nat.dvd_mul_left _ _
      · exact Nat.dvd_trans (ih i (by omega) h) (Nat.dvd_mul_right _ _)
theorem pr_sms {P Q : Nat → Nat} {W k : Nat} : ∀ n, (∀ i, i < n → ¬ P i = 0 → P i ∣ W) → pr_sm P Q (W * k) n = pr_sm P Q W n * k := by
  intro n
  induction n with
  | zero => intro _; exact (Nat.zero_mul k).symm
  | succ n ih =>
    intro h
    have i1 := ih (fun i hi => h i (by omega))
    by_cases z : P n = 0
    · rw [pr_sm0 z, pr_sm0 z]; exact i1
    · obtain ⟨m, hm⟩ := h n (by omega) z
      have hpos : 0 < P n := by omega
      have d1 : W / P n = m := by rw [hm]; exact Nat.mul_div_cancel_left m hpos
      have d2 : W * k / P n = m * k := by rw [hm, Nat.mul_assoc]; exact Nat.mul_div_cancel_left _ hpos
      rw [pr_sm1 z, pr_sm1 z, i1, d1, d2, Nat.add_mul, Nat.mul_assoc]
theorem pr_two {P Q : Nat → Nat} : ∀ n, pr_sm P Q (pr_pd P n) n = pr_us P Q n := by
  intro n
  induction n with
  | zero => rfl
  | succ n ih =>
    by_cases z : P n = 0
    · rw [pr_pd0 z, pr_sm0 z, pr_us0 z]; exact ih
    · rw [pr_pd1 z, pr_sm1 z, pr_us1 z, pr_sms n (pr_pdv n), ih, Nat.mul_div_cancel _ (by omega)]
theorem pr_pdb {P : Nat → Nat} (hP : ∀ c, c < 4 → P c ≤ 32) : ∀ n, n ≤ 4 → pr_pd P n ≤ 32 ^ n := by
  intro n
  induction n with
  | zero => intro _; exact Nat.le_refl _
  | succ n ih =>
    intro h
    have i1 := ih (by omega)
    rw [Nat.pow_succ]
    by_cases z : P n = 0
    · rw [pr_pd0 z]; omega
    · rw [pr_pd1 z]; exact Nat.mul_le_mul i1 (hP n (by omega))
theorem pr_pdB {P : Nat → Nat} (hP : ∀ c, c < 4 → P c ≤ 32) {n : Nat} (h : n ≤ 4) : pr_pd P n ≤ 1048576 :=
  Nat.le_trans (pr_pdb hP n h) (Nat.le_trans (Nat.pow_le_pow_right (by decide) h) (by decide))
theorem pr_smb {P Q : Nat → Nat} {W : Nat} (hQ : ∀ c, c < 4 → Q c ≤ 32) : ∀ n, n ≤ 4 → pr_sm P Q W n ≤ n * (32 * W) := by
  intro n
  induction n with
  | zero => intro _; exact Nat.zero_le _
  | succ n ih =>
    intro h
    have i1 := ih (by omega)
    rw [Nat.add_mul, Nat.one_mul]
    by_cases z : P n = 0
    · rw [pr_sm0 z]; omega
    · rw [pr_sm1 z]
      have i2 : Q n * (W / P n) ≤ 32 * W := Nat.mul_le_mul (hQ n (by omega)) (Nat.div_le_self _ _)
      omega
theorem pr_usb {P Q : Nat → Nat} (hP : ∀ c, c < 4 → P c ≤ 32) (hQ : ∀ c, c < 4 → Q c ≤ 32) {n : Nat} (h : n ≤ 4) : pr_us P Q n ≤ 134217728 := by
  have a := pr_smb (P := P) (W := pr_pd P n) hQ n h
  rw [pr_two] at a
  have b := pr_pdB hP h
  have d : n * (32 * pr_pd P n) ≤ 4 * (32 * 1048576) := Nat.mul_le_mul h (Nat.mul_le_mul (Nat.le_refl _) b)
  omega
variable {hz nw ad : Int32} {po ct sp sb pe wc re ex mi le : Nat → Int32}
/-! X: every task is served -/
def pr_fS (ct sp : Nat → Int32) : Nat → Bool := fun c => decide (ct c ≤ 0) || !decide (sp c = 0)
theorem pr_xserved2 {post : Int32 → Prop} :
    ∀ d c, c + d = 4 → post (pr_b (pr_all (pr_fS ct sp) c d)) → wX_everyTaskIsServed_2 post hz nw ad po ct sp sb pe wc re ex mi le (d + 1) (nI c) := by
  intro d
  induction d with
  | zero =>
    intro c hc H
    exact pk_le 4 c (fun _ => H) (fun z => absurd z (by omega))
  | succ d ih =>
    intro c hc H
    have hc4 : c < 4 := by omega
    refine pk_le 4 c (fun z => absurd z (by omega)) (fun _ => ⟨pr_i4 hc4, ?_⟩)
    rw [pr_cl (c := c) (by omega)]
    refine br_c (fun z => nm_r (e' := nI (c + 1)) (nI_1 _) (ih (c + 1) (by omega) ?_)) (fun z => pr_xhas hc4 (fun y => br_t rfl ?_) (fun y => br_f pr_10 (nm_r (e' := nI (c + 1)) (nI_1 _) (ih (c + 1) (by omega) ?_))))
    · have e : pr_fS ct sp c = true := by
        show (decide (ct c ≤ 0) || !decide (sp c = 0)) = true
        rw [decide_eq_true z]; rfl
      rw [pr_all_t e] at H; exact H
    · have e : pr_fS ct sp c = false := by
        show (decide (ct c ≤ 0) || !decide (sp c = 0)) = false
        rw [decide_eq_false z, decide_eq_true y]; rfl
      rw [pr_all_f e] at H; exact H
    · have e : pr_fS ct sp c = true := by
        show (decide (ct c ≤ 0) || !decide (sp c = 0)) = true
        rw [decide_eq_false z, decide_eq_false y]; rfl
      rw [pr_all_t e] at H; exact H
theorem pr_xserved {post : Int32 → Prop} (H : post (pr_b (pr_all (pr_fS ct sp) 0 4))) : wpX_everyTaskIsServed post (hz, nw, ad, po, ct, sp, sb, pe, wc, re, ex, mi, le) :=
  ⟨5, pr_xserved2 4 0 (by omega) H⟩
/-! X: the bandwidth fits -/
theorem pr_xbw6 {post : Int32 → Prop} {P Q : Nat → Nat} (hP : ∀ c, c < 4 → P c ≤ 32) (hQ : ∀ c, c < 4 → Q c ≤ 32) (hsp : ∀ c, c < 4 → sp c = nI (P c)) (hsb : ∀ c, c < 4 → sb c = nI (Q c))
    (H : post (pr_b (decide (pr_us P Q 4 ≤ pr_pd P 4)))) :
    ∀ d c, c + d = 4 → wX_bandwidthFits_6 post hz nw ad po ct sp sb pe wc re ex mi le (d + 1) (nI (pr_us P Q c)) (nI (pr_pd P c)) (nI c) := by
  intro d
  induction d with
  | zero =>
    intro c hc
    have e : c = 4 := by omega
    subst e
    have b1 := pr_usb hP hQ (Nat.le_refl 4)
    have b2 := pr_pdB hP (Nat.le_refl 4)
    refine pk_le 4 4 (fun _ => pk_lt (pr_pd P 4) (pr_us P Q 4) (fun z => ?_) (fun z => ?_)) (fun z => absurd z (by omega))
    · rw [decide_eq_false (by omega)] at H; exact H
    · rw [decide_eq_true z] at H; exact H
  | succ d ih =>
    intro c hc
    have hc4 : c < 4 := by omega
    have hcl : (nI c).toNatClampNeg = c := nI_clamp (by omega)
    have W := ih (c + 1) (by omega)
    refine pk_le 4 c (fun z => absurd z (by omega)) (fun _ => pr_xhas hc4 (fun y => br_t rfl (nm_r (e' := nI (c + 1)) (nI_1 _) ?_)) (fun y => br_f pr_10 ⟨pr_i4 hc4, pr_i4 hc4, nm_r (e' := nI (pr_us P Q (c + 1))) ?_ ⟨pr_i4 hc4, nm_r (e' := nI (pr_pd P (c + 1))) ?_ (nm_r (e' := nI (c + 1)) (nI_1 _) W)⟩⟩))
    · have z : P c = 0 := by
        rw [hsp c hc4] at y
        exact (nI_eq (b := 0) (by have := hP c hc4; omega) (by omega)).mp y
      rw [pr_us0 z, pr_pd0 z] at W
      exact W
    · have z : ¬ P c = 0 := by
        intro z; apply y; rw [hsp c hc4, z]; rfl
      rw [hcl, hsp c hc4, hsb c hc4, pk_mul, pk_mul, nI_add, pr_us1 z]
    · have z : ¬ P c = 0 := by
        intro z; apply y; rw [hsp c hc4, z]; rfl
      rw [hcl, hsp c hc4, pk_mul, pr_pd1 z]
theorem pr_xbw {post : Int32 → Prop} {P Q : Nat → Nat} (hP : ∀ c, c < 4 → P c ≤ 32) (hQ : ∀ c, c < 4 → Q c ≤ 32) (hsp : ∀ c, c < 4 → sp c = nI (P c)) (hsb : ∀ c, c < 4 → sb c = nI (Q c))
    (H : post (pr_b (decide (pr_us P Q 4 ≤ pr_pd P 4)))) : wpX_bandwidthFits post (hz, nw, ad, po, ct, sp, sb, pe, wc, re, ex, mi, le) :=
  ⟨5, pr_xbw6 hP hQ hsp hsb H 4 0 (by omega)⟩
/-! X: letting in -/
theorem pr_xad20 {post : Int32 → SX → Prop} (b : Bool) (I : ∀ c, c < 4 → pr_C po ct sp sb pe c)
    (H : post (pr_b b) (hz, 0, pr_b b, po, ct, sp, sb, pe, wc, pr_rsR wc ct re 4, pr_rsR (fun _ => 0) ct ex 4, pr_fill (fun _ => 0) mi 0 4, pr_fill (pr_rsL sp sb) le 0 4)) :
    wX_admit_20 post (pr_b b) hz nw ad po ct sp sb pe wc re ex mi le := by
  refine ⟨pr_bn b, pr_bf b, ?_⟩
  refine pr_xreset I ?_
  exact ⟨pr_bn b, H⟩
theorem pr_xadmit {post : Int32 → SX → Prop} {P Q : Nat → Nat} (hP : ∀ c, c < 4 → P c ≤ 32) (hQ : ∀ c, c < 4 → Q c ≤ 32) (hsp : ∀ c, c < 4 → sp c = nI (P c)) (hsb : ∀ c, c < 4 → sb c = nI (Q c)) (I : ∀ c, c < 4 → pr_C po ct sp sb pe c)
    (H : ∀ b : Bool, b = (pr_all (pr_fS ct sp) 0 4 && decide (pr_us P Q 4 ≤ pr_pd P 4)) → post (pr_b b) (hz, 0, pr_b b, po, ct, sp, sb, pe, wc, pr_rsR wc ct re 4, pr_rsR (fun _ => 0) ct ex 4, pr_fill (fun _ => 0) mi 0 4, pr_fill (pr_rsL sp sb) le 0 4)) :
    wpX_admit post (hz, nw, ad, po, ct, sp, sb, pe, wc, re, ex, mi, le) := by
  unfold wpX_admit
  refine pr_xserved ?_
  cases e : pr_all (pr_fS ct sp) 0 4 with
  | false =>
    rw [e] at H
    exact br_t rfl (pr_xad20 false I (H false rfl))
  | true =>
    refine br_f pr_10 (pr_xbw hP hQ hsp hsb ?_)
    cases e2 : decide (pr_us P Q 4 ≤ pr_pd P 4) with
    | false =>
      rw [e, e2] at H
      exact br_t rfl (pr_xad20 false I (H false rfl))
    | true =>
      rw [e, e2] at H
      exact br_f pr_10 (pr_xad20 true I (H true rfl))
/-! Y: letting in -/
theorem pr_yad134 {post : Int32 → SY → Prop} (b : Bool) (I : ∀ c, c < 4 → pr_C po ct sp sb pe c)
    (H : post (pr_b b) (hz, 0, pr_b b, po, ct, sp, sb, pr_fill (fun _ => 0) mi 0 4, pr_fill (pr_rsL sp sb) le 0 4, pe, wc, pr_rsR wc ct re 4, pr_rsR (fun _ => 0) ct ex 4)) :
    wY_admit_134 post (pr_b b) hz nw ad po ct sp sb mi le pe wc re ex := by
  refine ⟨pr_bn b, pr_bf b, ?_⟩
  refine pr_yreset I ?_
  exact ⟨pr_bn b, H⟩
theorem pr_yad79 {post : Int32 → SY → Prop} {P Q : Nat → Nat} (b : Bool) (hP : ∀ c, c < 4 → P c ≤ 32) (hQ : ∀ c, c < 4 → Q c ≤ 32) (hsp : ∀ c, c < 4 → sp c = nI (P c)) (hsb : ∀ c, c < 4 → sb c = nI (Q c)) (I : ∀ c, c < 4 → pr_C po ct sp sb pe c)
    (H : post (pr_b (b && decide (pr_us P Q 4 ≤ pr_pd P 4))) (hz, 0, pr_b (b && decide (pr_us P Q 4 ≤ pr_pd P 4)), po, ct, sp, sb, pr_fill (fun _ => 0) mi 0 4, pr_fill (pr_rsL sp sb) le 0 4, pe, wc, pr_rsR wc ct re 4, pr_rsR (fun _ => 0) ct ex 4)) :
    ∀ d c, c + d = 4 → wY_admit_79 post (pr_b b) (lN (pr_pd P 4)) hz nw ad po ct sp sb mi le pe wc re ex (d + 1) (lN (pr_sm P Q (pr_pd P 4) c)) (nI c) := by
  have b2 := pr_pdB hP (Nat.le_refl 4)
  intro d
  induction d with
  | zero =>
    intro c hc
    have e : c = 4 := by omega
    subst e
    have b1 := pr_usb hP hQ (Nat.le_refl 4)
    refine pk_le 4 4 (fun _ => ?_) (fun z => absurd z (by omega))
    rw [pr_two]
    by_cases z : pr_us P Q 4 ≤ pr_pd P 4
    · rw [decide_eq_true z, Bool.and_true] at H
      exact br_t ((pk_lLE (by omega) (by omega)).mpr z) (pr_yad134 b I H)
    · rw [decide_eq_false z, Bool.and_false] at H
      exact br_f (fun y => z ((pk_lLE (by omega) (by omega)).mp y)) (pr_yad134 false I H)
  | succ d ih =>
    intro c hc
    have hc4 : c < 4 := by omega
    have hcl : (nI c).toNatClampNeg = c := nI_clamp (by omega)
    have hPc := hP c hc4
    have hQc := hQ c hc4
    have hspc : sp (nI c).toNatClampNeg = nI (P c) := by rw [hcl]; exact hsp c hc4
    have hsbc : sb (nI c).toNatClampNeg = nI (Q c) := by rw [hcl]; exact hsb c hc4
    have W := ih (c + 1) (by omega)
    refine pk_le 4 c (fun z => absurd z (by omega)) (fun _ => ⟨pr_i4 hc4, pk_le (P c) 0 (fun z => nm_r (e' := nI (c + 1)) (nI_1 _) ?_) (fun z => ⟨pr_i4 hc4, pr_i4 hc4, ?_, nm_r (e' := lN (pr_sm P Q (pr_pd P 4) (c + 1))) ?_ (nm_r (e' := nI (c + 1)) (nI_1 _) W)⟩) hspc⟩)
    · rw [pr_sm0 (show P c = 0 from by omega)] at W; exact W
    · rw [hspc, nI_l (by omega)]
      intro y
      have := (pk_lEQ (b := 0) (by omega) (by omega)).mp y
      omega
    · rw [hspc, hsbc, nI_l (by omega), nI_l (by omega), pk_lDiv (by omega) z (by omega), lN_mul, lN_add, pr_sm1 (show ¬ P c = 0 from by omega)]
theorem pr_yad40 {post : Int32 → SY → Prop} {P Q : Nat → Nat} (b : Bool) (hP : ∀ c, c < 4 → P c ≤ 32) (hQ : ∀ c, c < 4 → Q c ≤ 32) (hsp : ∀ c, c < 4 → sp c = nI (P c)) (hsb : ∀ c, c < 4 → sb c = nI (Q c)) (I : ∀ c, c < 4 → pr_C po ct sp sb pe c)
    (H : post (pr_b (b && decide (pr_us P Q 4 ≤ pr_pd P 4))) (hz, 0, pr_b (b && decide (pr_us P Q 4 ≤ pr_pd P 4)), po, ct, sp, sb, pr_fill (fun _ => 0) mi 0 4, pr_fill (pr_rsL sp sb) le 0 4, pe, wc, pr_rsR wc ct re 4, pr_rsR (fun _ => 0) ct ex 4)) :
    ∀ d c, c + d = 4 → wY_admit_40 post (pr_b b) hz nw ad po ct sp sb mi le pe wc re ex (d + 1) (lN (pr_pd P c)) (nI c) := by
  intro d
  induction d with
  | zero =>
    intro c hc
    have e : c = 4 := by omega
    subst e
    exact pk_le 4 4 (fun _ => ⟨5, pr_yad79 b hP hQ hsp hsb I H 4 0 (by omega)⟩) (fun z => absurd z (by omega))
  | succ d ih =>
    intro c hc
    have hc4 : c < 4 := by omega
    have hcl : (nI c).toNatClampNeg = c := nI_clamp (by omega)
    have hPc := hP c hc4
    have hspc : sp (nI c).toNatClampNeg = nI (P c) := by rw [hcl]; exact hsp c hc4
    have W := ih (c + 1) (by omega)
    refine pk_le 4 c (fun z => absurd z (by omega)) (fun _ => ⟨pr_i4 hc4, pk_le (P c) 0 (fun z => nm_r (e' := nI (c + 1)) (nI_1 _) ?_) (fun z => ⟨pr_i4 hc4, nm_r (e' := lN (pr_pd P (c + 1))) ?_ (nm_r (e' := nI (c + 1)) (nI_1 _) W)⟩) hspc⟩)
    · rw [pr_pd0 (show P c = 0 from by omega)] at W; exact W
    · rw [hspc, nI_l (by omega), lN_mul, pr_pd1 (show ¬ P c = 0 from by omega)]
theorem pr_yad4 {post : Int32 → SY → Prop} {P Q : Nat → Nat} (hP : ∀ c, c < 4 → P c ≤ 32) (hQ : ∀ c, c < 4 → Q c ≤ 32) (hsp : ∀ c, c < 4 → sp c = nI (P c)) (hsb : ∀ c, c < 4 → sb c = nI (Q c)) (I : ∀ c, c < 4 → pr_C po ct sp sb pe c) :
    ∀ d c (b : Bool), c + d = 4 →
      (∀ a : Bool, a = ((b && pr_all (pr_fS ct sp) c d) && decide (pr_us P Q 4 ≤ pr_pd P 4)) → post (pr_b a) (hz, 0, pr_b a, po, ct, sp, sb, pr_fill (fun _ => 0) mi 0 4, pr_fill (pr_rsL sp sb) le 0 4, pe, wc, pr_rsR wc ct re 4, pr_rsR (fun _ => 0) ct ex 4)) →
      wY_admit_4 post hz nw ad po ct sp sb mi le pe wc re ex (d + 1) (pr_b b) (nI c) := by
  intro d
  induction d with
  | zero =>
    intro c b hc H
    exact pk_le 4 c (fun _ => ⟨5, pr_yad40 b hP hQ hsp hsb I (H _ (by rw [show pr_all (pr_fS ct sp) c 0 = true from rfl, Bool.and_true])) 4 0 (by omega)⟩) (fun z => absurd z (by omega))
  | succ d ih =>
    intro c b hc H
    have hc4 : c < 4 := by omega
    have hcl : (nI c).toNatClampNeg = c := nI_clamp (by omega)
    refine pk_le 4 c (fun z => absurd z (by omega)) (fun _ => ⟨pr_i4 hc4, ?_⟩)
    rw [hcl]
    refine br_c (fun z => nm_r (e' := nI (c + 1)) (nI_1 _) (ih (c + 1) b (by omega) ?_)) (fun z => ⟨pr_i4 hc4, br_c (fun y => nm_r (e' := nI (c + 1)) (nI_1 _) (ih (c + 1) false (by omega) ?_)) (fun y => nm_r (e' := nI (c + 1)) (nI_1 _) (ih (c + 1) b (by omega) ?_))⟩)
    · have e : pr_fS ct sp c = true := by
        show (decide (ct c ≤ 0) || !decide (sp c = 0)) = true
        rw [decide_eq_true z]; rfl
      rw [pr_all_t e] at H; exact H
    · have e : pr_fS ct sp c = false := by
        show (decide (ct c ≤ 0) || !decide (sp c = 0)) = false
        rw [decide_eq_false z, decide_eq_true y]; rfl
      rw [pr_all_f e, Bool.and_false] at H
      intro a ha
      rw [Bool.false_and] at ha
      exact H a ha
    · have e : pr_fS ct sp c = true := by
        show (decide (ct c ≤ 0) || !decide (sp c = 0)) = true
        rw [decide_eq_false z, decide_eq_false y]; rfl
      rw [pr_all_t e] at H; exact H
theorem i_vc_admit {k : Nat} {u : SX} {v : SY} (I : i_Rel k u v) (hk : k + 4 ≤ 2049) : wpX_admit (fun r u' => wpY_admit (fun r' v' => r' = r ∧ i_Rel (k + 4) u' v') v) u := by
  obtain ⟨hz, nw, ad, po, ct, sp, sb, pe, wc, re, ex, mi, le, rfl, rfl, ⟨H, t, rfl, rfl, h1, h2, h3⟩, ha, I⟩ := I
  have hK : ∀ c, c < 4 → pr_K sp c ≤ 32 ∧ pr_K sb c ≤ 32 ∧ sp c = nI (pr_K sp c) ∧ sb c = nI (pr_K sb c) := by
    intro c hc
    obtain ⟨-, -, p, q, hp, hq, e1, e2⟩ := I c hc
    rw [pr_Ke e1 (by omega), pr_Ke e2 (by omega)]
    exact ⟨hp, by omega, e1, e2⟩
  refine pr_xadmit (P := pr_K sp) (Q := pr_K sb) (fun c hc => (hK c hc).1) (fun c hc => (hK c hc).2.1) (fun c hc => (hK c hc).2.2.1) (fun c hc => (hK c hc).2.2.2) I ?_
  intro b hb
  refine ⟨5, pr_yad4 (P := pr_K sp) (Q := pr_K sb) (fun c hc => (hK c hc).1) (fun c hc => (hK c hc).2.1) (fun c hc => (hK c hc).2.2.1) (fun c hc => (hK c hc).2.2.2) I 4 0 true (by omega) ?_⟩
  intro a ha
  rw [Bool.true_and] at ha
  have e : a = b := ha.trans hb.symm
  subst e
  refine ⟨rfl, pr_rel (pr_inv0 h1 h2 ?_ I)⟩
  cases a
  · exact Or.inl rfl
  · exact Or.inr rfl
end PR08
end
section
section PR09
variable {hz nw ad : Int32} {po ct sp sb pe wc re ex mi le : Nat → Int32}
/-! the component chosen -/
def pr_dl (nw p : Int32) : Int32 := (nw / p + 1) * p
def pr_ch (nw : Int32) (sp le : Nat → Int32) : Nat → Int32 × Int32
  | 0 => (-1, 0)
  | c + 1 => if sp c = 0 then pr_ch nw sp le c else if le c ≤ 0 then pr_ch nw sp le c else if (pr_ch nw sp le c).1 = -1 then (nI c, pr_dl nw (sp c)) else if (pr_ch nw sp le c).2 ≤ pr_dl nw (sp c) then pr_ch nw sp le c else (nI c, pr_dl nw (sp c))
theorem pr_ch_in : ∀ n, (pr_ch nw sp le n).1 = -1 ∨ ∃ j, j < n ∧ (pr_ch nw sp le n).1 = nI j := by
  intro n
  induction n with
  | zero => exact Or.inl rfl
  | succ n ih =>
    have ih' : (pr_ch nw sp le n).1 = -1 ∨ ∃ j, j < n + 1 ∧ (pr_ch nw sp le n).1 = nI j := by
      cases ih with
      | inl h => exact Or.inl h
      | inr h => obtain ⟨j, hj, e⟩ := h; exact Or.inr ⟨j, by omega, e⟩
    have me : (nI n, pr_dl nw (sp n)).1 = -1 ∨ ∃ j, j < n + 1 ∧ (nI n, pr_dl nw (sp n)).1 = nI j := Or.inr ⟨n, by omega, rfl⟩
    unfold pr_ch
    by_cases h1 : sp n = 0
    · rw [if_pos h1]; exact ih'
    · rw [if_neg h1]
      by_cases h2 : le n ≤ 0
      · rw [if_pos h2]; exact ih'
      · rw [if_neg h2]
        by_cases h3 : (pr_ch nw sp le n).1 = -1
        · rw [if_pos h3]; exact me
        · rw [if_neg h3]
          by_cases h4 : (pr_ch nw sp le n).2 ≤ pr_dl nw (sp n)
          · rw [if_pos h4]; exact ih'
          · rw [if_neg h4]; exact me
theorem pr_xch6 {post : Int32 → Prop} (H : post (pr_ch nw sp le 4).1) :
    ∀ d c, c + d = 4 → wX_chooseComponent_6 post hz nw ad po ct sp sb pe wc re ex mi le (d + 1) (pr_ch nw sp le c).1 (pr_ch nw sp le c).2 (nI c) := by
  intro d
  induction d with
  | zero =>
    intro c hc
    have e : c = 4 := by omega
    subst e
    exact pk_le 4 4 (fun _ => H) (fun z => absurd z (by omega))
  | succ d ih =>
    intro c hc
    have hc4 : c < 4 := by omega
    have hcl : (nI c).toNatClampNeg = c := nI_clamp (by omega)
    have W := ih (c + 1) (by omega)
    unfold pr_ch at W
    refine pk_le 4 c (fun z => absurd z (by omega)) (fun _ => pr_xhas hc4 (fun h1 => br_t rfl (nm_r (e' := nI (c + 1)) (nI_1 _) ?_)) (fun h1 => br_f pr_10 ⟨pr_i4 hc4, ?_⟩))
    · rw [if_pos h1] at W; exact W
    · rw [if_neg h1] at W
      rw [hcl]
      refine br_c (fun h2 => nm_r (e' := nI (c + 1)) (nI_1 _) ?_) (fun h2 => ⟨pr_i4 hc4, nm_r (e' := sp c) rfl ⟨h1, nm_r (e' := pr_dl nw (sp c)) rfl (br_c (fun h3 => nm_r (e' := nI (c + 1)) (nI_1 _) ?_) (fun h3 => br_c (fun h4 => nm_r (e' := nI (c + 1)) (nI_1 _) ?_) (fun h4 => nm_r (e' := nI (c + 1)) (nI_1 _) ?_)))⟩⟩)
      · rw [if_pos h2] at W; exact W
      · rw [if_neg h2, if_pos h3] at W; exact W
      · rw [if_neg h2, if_neg h3, if_pos h4] at W; exact W
      · rw [if_neg h2, if_neg h3, if_neg h4] at W; exact W
theorem pr_xch {post : Int32 → Prop} (H : post (pr_ch nw sp le 4).1) : wpX_chooseComponent post (hz, nw, ad, po, ct, sp, sb, pe, wc, re, ex, mi, le) :=
  ⟨5, pr_xch6 H 4 0 (by omega)⟩
theorem pr_chneg {n : Nat} (hn : n < 2 ^ 31) : (pr_ch nw sp le n).1 = -1 ↔ (pr_ch nw sp le n).1 < 0 := by
  cases pr_ch_in (nw := nw) (sp := sp) (le := le) n with
  | inl h => rw [h]; exact ⟨fun _ => by decide, fun _ => rfl⟩
  | inr h =>
    obtain ⟨j, hj, e⟩ := h
    rw [e]
    refine ⟨fun z => ?_, fun z => absurd z (nI_pos (by omega))⟩
    have h5 := nI_pos (n := j) (by omega)
    rw [z] at h5
    exact absurd (by decide) h5
theorem pr_yu6 {post : SY → Prop} (I : ∀ c, c < 4 → pr_C po ct sp sb pe c)
    (H0 : (pr_ch nw sp le 4).1 = -1 → wY_unit_229 post hz nw ad po ct sp sb mi le pe wc re ex)
    (H1 : ∀ c, c < 4 → (pr_ch nw sp le 4).1 = nI c → ∃ n, wY_unit_98 post (nI c) hz nw ad po ct sp sb mi (upd le c (le c - 1)) pe wc re ex n (-1) 0 0) :
    ∀ d c, c + d = 4 → wY_unit_6 post hz nw ad po ct sp sb mi le pe wc re ex (d + 1) (pr_ch nw sp le c).1 (pr_ch nw sp le c).2 (nI c) := by
  intro d
  induction d with
  | zero =>
    intro c hc
    have e : c = 4 := by omega
    subst e
    refine pk_le 4 4 (fun _ => br_c (fun z => H0 ((pr_chneg (by omega)).mpr z)) (fun z => ?_)) (fun z => absurd z (by omega))
    cases pr_ch_in (nw := nw) (sp := sp) (le := le) 4 with
    | inl h => exact absurd ((pr_chneg (by omega)).mp h) z
    | inr h =>
      obtain ⟨j, hj, e⟩ := h
      have hcl : (nI j).toNatClampNeg = j := nI_clamp (by omega)
      rw [e]
      exact ⟨pr_i4 hj, pr_i4 hj, nm_r (e' := upd le j (le j - 1)) (by rw [hcl]) (H1 j hj e)⟩
  | succ d ih =>
    intro c hc
    have hc4 : c < 4 := by omega
    have hcl : (nI c).toNatClampNeg = c := nI_clamp (by omega)
    obtain ⟨-, -, p, q, hp, hq, hsp, hsb⟩ := I c hc4
    have hspc : sp (nI c).toNatClampNeg = nI p := by rw [hcl]; exact hsp
    have W := ih (c + 1) (by omega)
    unfold pr_ch at W
    refine pk_le 4 c (fun z => absurd z (by omega)) (fun _ => ⟨pr_i4 hc4, pk_le p 0 (fun z => nm_r (e' := nI (c + 1)) (nI_1 _) ?_) (fun z => ⟨pr_i4 hc4, ?_⟩) hspc⟩)
    · rw [if_pos (show sp c = 0 from by rw [hsp, show p = 0 from by omega]; rfl)] at W; exact W
    · have h1 : ¬ sp c = 0 := by rw [hsp]; exact nI_ne0 z (by omega)
      rw [if_neg h1] at W
      rw [hcl]
      refine br_c (fun h2 => nm_r (e' := nI (c + 1)) (nI_1 _) ?_) (fun h2 => ⟨pr_i4 hc4, h1, pr_i4 hc4, nm_r (e' := pr_dl nw (sp c)) rfl (br_c (fun h3 => nm_r (e' := nI (c + 1)) (nI_1 _) ?_) (fun h3 => br_c (fun h4 => nm_r (e' := nI (c + 1)) (nI_1 _) ?_) (fun h4 => nm_r (e' := nI (c + 1)) (nI_1 _) ?_)))⟩)
      · rw [if_pos h2] at W; exact W
      · rw [if_neg h2, if_pos ((pr_chneg (by omega)).mpr h3)] at W; exact W
      · rw [if_neg h2, if_neg (fun y => h3 ((pr_chneg (by omega)).mp y)), if_pos h4] at W; exact W
      · rw [if_neg h2, if_neg (fun y => h3 ((pr_chneg (by omega)).mp y)), if_neg h4] at W; exact W
/-! the task served: (which of the first i, its deadline) -/
def pr_sel (edf : Bool) (nw : Int32) (pe re : Nat → Int32) (b : Nat) : Nat → Option Nat × Int32
  | 0 => (none, 0)
  | i + 1 => if re (b + i) ≤ 0 then pr_sel edf nw pe re b i else match (pr_sel edf nw pe re b i).1 with
    | none => (some i, pr_dl nw (pe (b + i)))
    | some _ => if edf = true ∧ ¬ (pr_sel edf nw pe re b i).2 ≤ pr_dl nw (pe (b + i)) then (some i, pr_dl nw (pe (b + i))) else pr_sel edf nw pe re b i
def pr_o (b : Nat) (o : Option Nat) : Int32 := match o with
  | none => -1
  | some j => nI (b + j)
section PR09S
variable {edf : Bool} {b i : Nat}
theorem pr_sel0 (h : re (b + i) ≤ 0) : pr_sel edf nw pe re b (i + 1) = pr_sel edf nw pe re b i := if_pos h
theorem pr_sel1 (h : ¬ re (b + i) ≤ 0) (h2 : (pr_sel edf nw pe re b i).1 = none) : pr_sel edf nw pe re b (i + 1) = (some i, pr_dl nw (pe (b + i))) := by
  have e : pr_sel edf nw pe re b (i + 1) = match (pr_sel edf nw pe re b i).1 with
    | none => (some i, pr_dl nw (pe (b + i)))
    | some _ => if edf = true ∧ ¬ (pr_sel edf nw pe re b i).2 ≤ pr_dl nw (pe (b + i)) then (some i, pr_dl nw (pe (b + i))) else pr_sel edf nw pe re b i := if_neg h
  rw [e, h2]
theorem pr_sel2 {j : Nat} (h : ¬ re (b + i) ≤ 0) (h2 : (pr_sel edf nw pe re b i).1 = some j) : pr_sel edf nw pe re b (i + 1) = if edf = true ∧ ¬ (pr_sel edf nw pe re b i).2 ≤ pr_dl nw (pe (b + i)) then (some i, pr_dl nw (pe (b + i))) else pr_sel edf nw pe re b i := by
  have e : pr_sel edf nw pe re b (i + 1) = match (pr_sel edf nw pe re b i).1 with
    | none => (some i, pr_dl nw (pe (b + i)))
    | some _ => if edf = true ∧ ¬ (pr_sel edf nw pe re b i).2 ≤ pr_dl nw (pe (b + i)) then (some i, pr_dl nw (pe (b + i))) else pr_sel edf nw pe re b i := if_neg h
  rw [e, h2]
end PR09S
theorem pr_sel_in {edf : Bool} {b : Nat} : ∀ n j, (pr_sel edf nw pe re b n).1 = some j → j < n := by
  intro n
  induction n with
  | zero => intro j h; cases h
  | succ n ih =>
    intro j h
    by_cases z : re (b + n) ≤ 0
    · rw [pr_sel0 z] at h
      have := ih j h
      omega
    · cases e : (pr_sel edf nw pe re b n).1 with
      | none =>
        rw [pr_sel1 z e] at h
        cases h
        omega
      | some m =>
        rw [pr_sel2 z e] at h
        by_cases y : edf = true ∧ ¬ (pr_sel edf nw pe re b n).2 ≤ pr_dl nw (pe (b + n))
        · rw [if_pos y] at h
          cases h
          omega
        · rw [if_neg y] at h
          have := ih j h
          omega
theorem pr_on {b j : Nat} (h : b + j < 2 ^ 31) : ¬ pr_o b (some j) = -1 := by
  intro e
  have h5 := nI_pos (n := b + j) h
  have e2 : nI (b + j) = -1 := e
  rw [e2] at h5
  exact h5 (by decide)
theorem pr_fpkeep {b j : Nat} : ∀ m i, (pr_sel false nw pe re b i).1 = some j → (pr_sel false nw pe re b (i + m)).1 = some j := by
  intro m
  induction m with
  | zero => intro i h; exact h
  | succ m ih =>
    intro i h
    have h1 := ih i h
    show (pr_sel false nw pe re b (i + m + 1)).1 = some j
    by_cases z : re (b + (i + m)) ≤ 0
    · rw [pr_sel0 z]; exact h1
    · rw [pr_sel2 z h1, if_neg (fun y => absurd y.1 (by decide))]; exact h1
theorem pr_xfp17 {post : Int32 → Prop} {c k : Nat} (hc : c < 4) (hk : k ≤ 8) (H : post (pr_o (c * 8) (pr_sel false nw pe re (c * 8) k).1)) :
    ∀ d i, i + d = k → (pr_sel false nw pe re (c * 8) i).1 = none → wX_firstPendingSlot_17 post (nI (c * 8 + k)) hz nw ad po ct sp sb pe wc re ex mi le (d + 1) (nI (c * 8 + i)) := by
  intro d
  induction d with
  | zero =>
    intro i hi h
    have e : i = k := by omega
    subst e
    rw [h] at H
    exact pk_le (c * 8 + i) (c * 8 + i) (fun _ => H) (fun z => absurd z (by omega))
  | succ d ih =>
    intro i hi h
    have hin : vp_in (nI (c * 8 + i)) 32 := pr_i32 hc (by omega)
    have hcl : (nI (c * 8 + i)).toNatClampNeg = c * 8 + i := nI_clamp (by omega)
    refine pk_le (c * 8 + k) (c * 8 + i) (fun z => absurd z (by omega)) (fun _ => ⟨hin, ?_⟩)
    rw [hcl]
    refine br_c (fun z => nm_r (e' := nI (c * 8 + (i + 1))) (nI_1 _) (ih (i + 1) (by omega) (by rw [pr_sel0 z]; exact h))) (fun z => ?_)
    have e1 : (pr_sel false nw pe re (c * 8) (i + 1)).1 = some i := by rw [pr_sel1 z h]
    have e2 := pr_fpkeep d (i + 1) e1
    rw [show i + 1 + d = k from by omega] at e2
    rw [e2] at H
    exact H
theorem pr_xfp {post : Int32 → Prop} {c k : Nat} (hc : c < 4) (hk : k ≤ 8) (hct : ct c = nI k) (H : post (pr_o (c * 8) (pr_sel false nw pe re (c * 8) k).1)) :
    wpX_firstPendingSlot post (hz, nw, ad, po, ct, sp, sb, pe, wc, re, ex, mi, le) (nI c) := by
  have hcl : (nI c).toNatClampNeg = c := nI_clamp (by omega)
  refine nm_r (e' := nI (c * 8)) (pr_m8 c) ⟨pr_i4 hc, nm_r (e' := nI (c * 8 + k)) ?_ ⟨k + 1, pr_xfp17 hc hk H k 0 (by omega) rfl⟩⟩
  rw [hcl, hct]; exact nI_add _ _
theorem pr_xmu25 {post : Int32 → Prop} {c k : Nat} (hc : c < 4) (hk : k ≤ 8) (hp : ∀ i, i < k → ¬ pe (c * 8 + i) = 0) (H : post (pr_o (c * 8) (pr_sel true nw pe re (c * 8) k).1)) :
    ∀ d i, i + d = k → wX_mostUrgentSlot_25 post (nI (c * 8 + k)) hz nw ad po ct sp sb pe wc re ex mi le (d + 1) (pr_o (c * 8) (pr_sel true nw pe re (c * 8) i).1) (pr_sel true nw pe re (c * 8) i).2 (nI (c * 8 + i)) := by
  intro d
  induction d with
  | zero =>
    intro i hi
    have e : i = k := by omega
    subst e
    exact pk_le (c * 8 + i) (c * 8 + i) (fun _ => H) (fun z => absurd z (by omega))
  | succ d ih =>
    intro i hi
    have hin : vp_in (nI (c * 8 + i)) 32 := pr_i32 hc (by omega)
    have hcl : (nI (c * 8 + i)).toNatClampNeg = c * 8 + i := nI_clamp (by omega)
    have W := ih (i + 1) (by omega)
    refine pk_le (c * 8 + k) (c * 8 + i) (fun z => absurd z (by omega)) (fun _ => ⟨hin, ?_⟩)
    rw [hcl]
    refine br_c (fun z => nm_r (e' := nI (c * 8 + (i + 1))) (nI_1 _) ?_) (fun z => ⟨hin, hp i (by omega), hin, nm_r (e' := pr_dl nw (pe (c * 8 + i))) rfl ?_⟩)
    · rw [pr_sel0 z] at W; exact W
    · cases e : (pr_sel true nw pe re (c * 8) i).1 with
      | none =>
        rw [pr_sel1 z e] at W
        exact br_t rfl (nm_r (e' := nI (c * 8 + (i + 1))) (nI_1 _) W)
      | some j =>
        have hj := pr_sel_in _ _ e
        rw [pr_sel2 z e] at W
        refine br_f (pr_on (by omega)) (br_c (fun y => nm_r (e' := nI (c * 8 + (i + 1))) (nI_1 _) ?_) (fun y => nm_r (e' := nI (c * 8 + (i + 1))) (nI_1 _) ?_))
        · rw [if_neg (fun x => x.2 y), e] at W; exact W
        · rw [if_pos ⟨rfl, y⟩] at W; exact W
theorem pr_xmu {post : Int32 → Prop} {c k : Nat} (hc : c < 4) (hk : k ≤ 8) (hct : ct c = nI k) (hp : ∀ i, i < k → ¬ pe (c * 8 + i) = 0) (H : post (pr_o (c * 8) (pr_sel true nw pe re (c * 8) k).1)) :
    wpX_mostUrgentSlot post (hz, nw, ad, po, ct, sp, sb, pe, wc, re, ex, mi, le) (nI c) := by
  have hcl : (nI c).toNatClampNeg = c := nI_clamp (by omega)
  refine nm_r (e' := nI (c * 8)) (pr_m8 c) ⟨pr_i4 hc, nm_r (e' := nI (c * 8 + k)) ?_ ⟨k + 1, pr_xmu25 hc hk hp H k 0 (by omega)⟩⟩
  rw [hcl, hct]; exact nI_add _ _
/-! what serving does -/
def pr_svR (b : Nat) (re : Nat → Int32) (o : Option Nat) : Nat → Int32 := match o with
  | none => re
  | some j => upd re (b + j) (re (b + j) - 1)
def pr_svE (b : Nat) (ex : Nat → Int32) (o : Option Nat) : Nat → Int32 := match o with
  | none => ex
  | some j => upd ex (b + j) (ex (b + j) + 1)
theorem pr_xsv23 {post : SX → Prop} {c : Nat} (hc : c < 4) (o : Option Nat) (ho : ∀ j, o = some j → j < 8) (H : post (hz, nw, ad, po, ct, sp, sb, pe, wc, pr_svR (c * 8) re o, pr_svE (c * 8) ex o, mi, le)) :
    wX_serveTask_23 post (pr_o (c * 8) o) hz nw ad po ct sp sb pe wc re ex mi le := by
  cases o with
  | none => exact br_t rfl H
  | some j =>
    have hj := ho j rfl
    have hin : vp_in (nI (c * 8 + j)) 32 := pr_i32 hc hj
    have hcl : (nI (c * 8 + j)).toNatClampNeg = c * 8 + j := nI_clamp (by omega)
    exact br_f (pr_on (by omega)) ⟨hin, hin, nm_r (e' := upd re (c * 8 + j) (re (c * 8 + j) - 1)) (by show upd re (nI (c * 8 + j)).toNatClampNeg (re (nI (c * 8 + j)).toNatClampNeg - 1) = _; rw [hcl]) ⟨hin, hin, nm_r (e' := upd ex (c * 8 + j) (ex (c * 8 + j) + 1)) (by show upd ex (nI (c * 8 + j)).toNatClampNeg (ex (nI (c * 8 + j)).toNatClampNeg + 1) = _; rw [hcl]) H⟩⟩
theorem pr_xserve {post : SX → Prop} {c k : Nat} (hc : c < 4) (hk : k ≤ 8) (hpo : po c = 0 ∨ po c = 1) (hct : ct c = nI k) (hp : ∀ i, i < k → ¬ pe (c * 8 + i) = 0)
    (H : post (hz, nw, ad, po, ct, sp, sb, pe, wc, pr_svR (c * 8) re (pr_sel (decide (po c = 0)) nw pe re (c * 8) k).1, pr_svE (c * 8) ex (pr_sel (decide (po c = 0)) nw pe re (c * 8) k).1, mi, le)) :
    wpX_serveTask post (hz, nw, ad, po, ct, sp, sb, pe, wc, re, ex, mi, le) (nI c) := by
  have hcl : (nI c).toNatClampNeg = c := nI_clamp (by omega)
  refine ⟨pr_i4 hc, ?_⟩
  rw [hcl]
  cases hpo with
  | inl h =>
    rw [decide_eq_true h] at H
    exact br_f (by rw [h]; decide) (pr_xmu hc hk hct hp (pr_xsv23 hc _ (fun j e => by have := pr_sel_in _ _ e; omega) H))
  | inr h =>
    rw [decide_eq_false (by rw [h]; decide)] at H
    exact br_t h (pr_xfp hc hk hct (pr_xsv23 hc _ (fun j e => by have := pr_sel_in _ _ e; omega) H))
theorem pr_yu98 {post : SY → Prop} {c k : Nat} (hc : c < 4) (hk : k ≤ 8) (hct : ct c = nI k) (hp : ∀ i, i < k → ¬ pe (c * 8 + i) = 0)
    (H : wY_unit_229 post hz nw ad po ct sp sb mi le pe wc (pr_svR (c * 8) re (pr_sel (decide (po c = 0)) nw pe re (c * 8) k).1) (pr_svE (c * 8) ex (pr_sel (decide (po c = 0)) nw pe re (c * 8) k).1)) :
    ∀ d i, i + d = k → wY_unit_98 post (nI c) hz nw ad po ct sp sb mi le pe wc re ex (d + 1) (pr_o 0 (pr_sel (decide (po c = 0)) nw pe re (c * 8) i).1) (pr_sel (decide (po c = 0)) nw pe re (c * 8) i).2 (nI i) := by
  have hcl : (nI c).toNatClampNeg = c := nI_clamp (by omega)
  have hcc : ct (nI c).toNatClampNeg = nI k := by rw [hcl]; exact hct
  intro d
  induction d with
  | zero =>
    intro i hi
    have e : i = k := by omega
    subst e
    refine ⟨pr_i4 hc, pk_le i i (fun _ => ?_) (fun z => absurd z (by omega)) hcc⟩
    cases e : (pr_sel (decide (po c = 0)) nw pe re (c * 8) i).1 with
    | none =>
      rw [e] at H
      exact br_t (by decide) H
    | some j =>
      have hj := pr_sel_in _ _ e
      rw [e] at H
      have e0 : pr_o 0 (some j) = nI j := by show nI (0 + j) = nI j; rw [Nat.zero_add]
      rw [e0]
      have hin : vp_in (nI c * 8 + nI j) 32 := by rw [pr_sl]; exact pr_i32 hc (by omega)
      have hsl : (nI c * 8 + nI j).toNatClampNeg = c * 8 + j := by rw [pr_sl]; exact nI_clamp (by omega)
      exact br_f (nI_pos (by omega)) ⟨hin, hin, nm_r (e' := upd re (c * 8 + j) (re (c * 8 + j) - 1)) (by rw [hsl]) ⟨hin, hin, nm_r (e' := upd ex (c * 8 + j) (ex (c * 8 + j) + 1)) (by rw [hsl]) H⟩⟩
  | succ d ih =>
    intro i hi
    have hin : vp_in (nI (c * 8 + i)) 32 := pr_i32 hc (by omega)
    have hsl : (nI (c * 8 + i)).toNatClampNeg = c * 8 + i := nI_clamp (by omega)
    have W := ih (i + 1) (by omega)
    refine ⟨pr_i4 hc, pk_le k i (fun z => absurd z (by omega)) (fun _ => nm_r (e' := nI (c * 8 + i)) (pr_sl c i) ⟨hin, ?_⟩) hcc⟩
    rw [hsl]
    refine br_c (fun z => nm_r (e' := nI (i + 1)) (nI_1 _) ?_) (fun z => ⟨hin, hp i (by omega), hin, nm_r (e' := pr_dl nw (pe (c * 8 + i))) rfl ?_⟩)
    · rw [pr_sel0 z] at W; exact W
    · cases e : (pr_sel (decide (po c = 0)) nw pe re (c * 8) i).1 with
      | none =>
        rw [pr_sel1 z e, show pr_o 0 (some i, pr_dl nw (pe (c * 8 + i))).1 = nI i from by show nI (0 + i) = nI i; rw [Nat.zero_add]] at W
        exact br_f pr_m1n (nm_r (e' := nI (i + 1)) (nI_1 _) W)
      | some j =>
        have hj := pr_sel_in _ _ e
        rw [pr_sel2 z e] at W
        refine br_t (nI_pos' (n := 0 + j) (by omega)) ⟨pr_i4 hc, ?_⟩
        rw [hcl]
        refine br_c (fun x => br_c (fun y => nm_r (e' := nI (i + 1)) (nI_1 _) ?_) (fun y => nm_r (e' := nI (i + 1)) (nI_1 _) ?_)) (fun x => nm_r (e' := nI (i + 1)) (nI_1 _) ?_)
        · rw [if_neg (fun w => w.2 y), e] at W; exact W
        · rw [if_pos ⟨decide_eq_true x, y⟩, show pr_o 0 (some i, pr_dl nw (pe (c * 8 + i))).1 = nI i from by show nI (0 + i) = nI i; rw [Nat.zero_add]] at W
          exact W
        · rw [if_neg (fun w => x (of_decide_eq_true w.1)), e] at W; exact W
end PR09
end
section
section PR10
variable {hz nw ad : Int32} {po ct sp sb pe wc re ex mi le : Nat → Int32}
/-! budgets refilled -/
def pr_rm (nw p : Int32) : Int32 := nw - nw / p * p
def pr_rf (nw : Int32) (sp sb le : Nat → Int32) : Nat → Int32 := fun c => if sp c = 0 then le c else if pr_rm nw (sp c) = 0 then sb c else le c
theorem pr_xrf2 {post : SX → Prop} (H : post (hz, nw, ad, po, ct, sp, sb, pe, wc, re, ex, mi, pr_fill (pr_rf nw sp sb le) le 0 4)) :
    ∀ d c, c + d = 4 → wX_refillBudgets_2 post hz nw ad (d + 1) (nI c) po ct sp sb pe wc re ex mi (pr_fill (pr_rf nw sp sb le) le 0 c) := by
  intro d
  induction d with
  | zero =>
    intro c hc
    have e : c = 4 := by omega
    subst e
    exact pk_le 4 4 (fun _ => H) (fun z => absurd z (by omega))
  | succ d ih =>
    intro c hc
    have hc4 : c < 4 := by omega
    have hcl : (nI c).toNatClampNeg = c := nI_clamp (by omega)
    have W := ih (c + 1) (by omega)
    refine pk_le 4 c (fun z => absurd z (by omega)) (fun _ => pr_xhas hc4 (fun h1 => br_t rfl (nm_r (e' := nI (c + 1)) (nI_1 _) ?_)) (fun h1 => br_f pr_10 ⟨pr_i4 hc4, ?_⟩))
    · rw [← pr_fillN (show pr_rf nw sp sb le c = le c from if_pos h1)] at W; exact W
    · rw [hcl]
      refine ⟨h1, br_c (fun h2 => ⟨pr_i4 hc4, pr_i4 hc4, nm_r (e' := pr_fill (pr_rf nw sp sb le) le 0 (c + 1)) ?_ (nm_r (e' := nI (c + 1)) (nI_1 _) W)⟩) (fun h2 => nm_r (e' := nI (c + 1)) (nI_1 _) ?_)⟩
      · have e : sb c = pr_rf nw sp sb le c := by
          show sb c = if sp c = 0 then le c else if pr_rm nw (sp c) = 0 then sb c else le c
          rw [if_neg h1, if_pos (show pr_rm nw (sp c) = 0 from h2)]
        rw [e]; exact pr_fillS (Nat.zero_le _)
      · have e : pr_rf nw sp sb le c = le c := by
          show (if sp c = 0 then le c else if pr_rm nw (sp c) = 0 then sb c else le c) = le c
          rw [if_neg h1, if_neg (show ¬ pr_rm nw (sp c) = 0 from h2)]
        rw [← pr_fillN e] at W; exact W
theorem pr_xrf {post : SX → Prop} (H : post (hz, nw, ad, po, ct, sp, sb, pe, wc, re, ex, mi, pr_fill (pr_rf nw sp sb le) le 0 4)) :
    wpX_refillBudgets post (hz, nw, ad, po, ct, sp, sb, pe, wc, re, ex, mi, le) := by
  have W := pr_xrf2 (le := le) H 4 0 (by omega)
  rw [pr_fill0] at W
  exact ⟨5, W⟩
/-! jobs released -/
def pr_rj (nw : Int32) (pe wc : Nat → Int32) (c b : Nat) (s : (Nat → Int32) × (Nat → Int32)) : Nat → (Nat → Int32) × (Nat → Int32)
  | 0 => s
  | i + 1 => if pr_rm nw (pe (b + i)) = 0 then (if (pr_rj nw pe wc c b s i).2 (b + i) ≤ 0 then (pr_rj nw pe wc c b s i).1 else upd (pr_rj nw pe wc c b s i).1 c ((pr_rj nw pe wc c b s i).1 c + 1), upd (pr_rj nw pe wc c b s i).2 (b + i) (wc (b + i))) else pr_rj nw pe wc c b s i
def pr_rl (nw : Int32) (ct pe wc : Nat → Int32) (s : (Nat → Int32) × (Nat → Int32)) : Nat → (Nat → Int32) × (Nat → Int32)
  | 0 => s
  | c + 1 => pr_rj nw pe wc c (c * 8) (pr_rl nw ct pe wc s c) (pr_K ct c)
section PR10S
variable {c b i : Nat} {s : (Nat → Int32) × (Nat → Int32)}
theorem pr_rj0 (h : ¬ pr_rm nw (pe (b + i)) = 0) : pr_rj nw pe wc c b s (i + 1) = pr_rj nw pe wc c b s i := if_neg h
theorem pr_rj1 (h : pr_rm nw (pe (b + i)) = 0) (h2 : (pr_rj nw pe wc c b s i).2 (b + i) ≤ 0) : pr_rj nw pe wc c b s (i + 1) = ((pr_rj nw pe wc c b s i).1, upd (pr_rj nw pe wc c b s i).2 (b + i) (wc (b + i))) := by
  have e : pr_rj nw pe wc c b s (i + 1) = (if (pr_rj nw pe wc c b s i).2 (b + i) ≤ 0 then (pr_rj nw pe wc c b s i).1 else upd (pr_rj nw pe wc c b s i).1 c ((pr_rj nw pe wc c b s i).1 c + 1), upd (pr_rj nw pe wc c b s i).2 (b + i) (wc (b + i))) := if_pos h
  rw [e, if_pos h2]
theorem pr_rj2 (h : pr_rm nw (pe (b + i)) = 0) (h2 : ¬ (pr_rj nw pe wc c b s i).2 (b + i) ≤ 0) : pr_rj nw pe wc c b s (i + 1) = (upd (pr_rj nw pe wc c b s i).1 c ((pr_rj nw pe wc c b s i).1 c + 1), upd (pr_rj nw pe wc c b s i).2 (b + i) (wc (b + i))) := by
  have e : pr_rj nw pe wc c b s (i + 1) = (if (pr_rj nw pe wc c b s i).2 (b + i) ≤ 0 then (pr_rj nw pe wc c b s i).1 else upd (pr_rj nw pe wc c b s i).1 c ((pr_rj nw pe wc c b s i).1 c + 1), upd (pr_rj nw pe wc c b s i).2 (b + i) (wc (b + i))) := if_pos h
  rw [e, if_neg h2]
end PR10S
theorem pr_xrj24 {post : SX → Prop} {J : Int32 → (Nat → Int32) → (Nat → Int32) → (Nat → Int32) → (Nat → Int32) → (Nat → Int32) → (Nat → Int32) → (Nat → Int32) → (Nat → Int32) → (Nat → Int32) → (Nat → Int32) → Prop} {c k : Nat} {s : (Nat → Int32) × (Nat → Int32)} (hc : c < 4) (hk : k ≤ 8) (hp : ∀ i, i < k → ¬ pe (c * 8 + i) = 0)
    (H : J (nI (c + 1)) po ct sp sb pe wc (pr_rj nw pe wc c (c * 8) s k).2 ex (pr_rj nw pe wc c (c * 8) s k).1 le) :
    ∀ d i, i + d = k → wX_releaseJobs_24 post J (nI c) (nI (c * 8 + k)) hz nw ad (d + 1) (nI (c * 8 + i)) po ct sp sb pe wc (pr_rj nw pe wc c (c * 8) s i).2 ex (pr_rj nw pe wc c (c * 8) s i).1 le := by
  have hcc : (nI c).toNatClampNeg = c := nI_clamp (by omega)
  intro d
  induction d with
  | zero =>
    intro i hi
    have e : i = k := by omega
    subst e
    exact pk_le (c * 8 + i) (c * 8 + i) (fun _ => nm_r (nI_1 c) H) (fun z => absurd z (by omega))
  | succ d ih =>
    intro i hi
    have hin : vp_in (nI (c * 8 + i)) 32 := pr_i32 hc (by omega)
    have hcl : (nI (c * 8 + i)).toNatClampNeg = c * 8 + i := nI_clamp (by omega)
    have W := ih (i + 1) (by omega)
    refine pk_le (c * 8 + k) (c * 8 + i) (fun z => absurd z (by omega)) (fun _ => ⟨hin, ?_⟩)
    rw [hcl]
    refine ⟨hp i (by omega), br_c (fun h => ⟨hin, br_c (fun h2 => ?_) (fun h2 => ⟨pr_i4 hc, pr_i4 hc, ?_⟩)⟩) (fun h => nm_r (e' := nI (c * 8 + (i + 1))) (nI_1 _) ?_)⟩
    · rw [pr_rj1 h h2] at W
      exact ⟨hin, hin, nm_r (e' := upd (pr_rj nw pe wc c (c * 8) s i).2 (c * 8 + i) (wc (c * 8 + i))) (by rw [hcl]) (nm_r (e' := nI (c * 8 + (i + 1))) (nI_1 _) W)⟩
    · rw [pr_rj2 h h2] at W
      exact nm_r (e' := upd (pr_rj nw pe wc c (c * 8) s i).1 c ((pr_rj nw pe wc c (c * 8) s i).1 c + 1)) (by rw [hcc]) ⟨hin, hin, nm_r (e' := upd (pr_rj nw pe wc c (c * 8) s i).2 (c * 8 + i) (wc (c * 8 + i))) (by rw [hcl]) (nm_r (e' := nI (c * 8 + (i + 1))) (nI_1 _) W)⟩
    · rw [pr_rj0 h] at W; exact W
theorem pr_xrl2 {post : SX → Prop} {s : (Nat → Int32) × (Nat → Int32)} (I : ∀ c, c < 4 → pr_C po ct sp sb pe c)
    (H : post (hz, nw, ad, po, ct, sp, sb, pe, wc, (pr_rl nw ct pe wc s 4).2, ex, (pr_rl nw ct pe wc s 4).1, le)) :
    ∀ d c, c + d = 4 → wX_releaseJobs_2 post hz nw ad (d + 1) (nI c) po ct sp sb pe wc (pr_rl nw ct pe wc s c).2 ex (pr_rl nw ct pe wc s c).1 le := by
  intro d
  induction d with
  | zero =>
    intro c hc
    have e : c = 4 := by omega
    subst e
    exact pk_le 4 4 (fun _ => H) (fun z => absurd z (by omega))
  | succ d ih =>
    intro c hc
    have hc4 : c < 4 := by omega
    have hcl : (nI c).toNatClampNeg = c := nI_clamp (by omega)
    obtain ⟨-, ⟨k, hk, hct, hpe⟩, -⟩ := I c hc4
    have W := ih (c + 1) (by omega)
    rw [show pr_rl nw ct pe wc s (c + 1) = pr_rj nw pe wc c (c * 8) (pr_rl nw ct pe wc s c) k from by rw [← pr_Ke hct (by omega)]; rfl] at W
    have V := pr_xrj24 (post := post) (hz := hz) (ad := ad) hc4 hk (pr_nz hpe) W k 0 (by omega)
    refine pk_le 4 c (fun z => absurd z (by omega)) (fun _ => nm_r (e' := nI (c * 8)) (pr_m8 c) ⟨pr_i4 hc4, nm_r (e' := nI (c * 8 + k)) ?_ ⟨k + 1, V⟩⟩)
    rw [hcl, hct]; exact nI_add _ _
theorem pr_xrl {post : SX → Prop} (I : ∀ c, c < 4 → pr_C po ct sp sb pe c)
    (H : post (hz, nw, ad, po, ct, sp, sb, pe, wc, (pr_rl nw ct pe wc (mi, re) 4).2, ex, (pr_rl nw ct pe wc (mi, re) 4).1, le)) :
    wpX_releaseJobs post (hz, nw, ad, po, ct, sp, sb, pe, wc, re, ex, mi, le) :=
  ⟨5, pr_xrl2 (s := (mi, re)) I H 4 0 (by omega)⟩
theorem pr_xtail {post : SX → Prop} (I : ∀ c, c < 4 → pr_C po ct sp sb pe c)
    (H : post (hz, nw + 1, ad, po, ct, sp, sb, pe, wc, (pr_rl (nw + 1) ct pe wc (mi, re) 4).2, ex, (pr_rl (nw + 1) ct pe wc (mi, re) 4).1, pr_fill (pr_rf (nw + 1) sp sb le) le 0 4)) :
    wX_simulateUnit_25 post hz nw ad po ct sp sb pe wc re ex mi le := by
  refine nm_e ?_
  refine pr_xrf ?_
  exact pr_xrl I H
/-! the reference's -/
theorem pr_yu297 {post : SY → Prop} {J : Int32 → (Nat → Int32) → (Nat → Int32) → (Nat → Int32) → (Nat → Int32) → (Nat → Int32) → (Nat → Int32) → (Nat → Int32) → (Nat → Int32) → (Nat → Int32) → (Nat → Int32) → Prop} {c k : Nat} {s : (Nat → Int32) × (Nat → Int32)} (hc : c < 4) (hk : k ≤ 8) (hct : ct c = nI k) (hp : ∀ i, i < k → ¬ pe (c * 8 + i) = 0)
    (H : J (nI (c + 1)) po ct sp sb (pr_rj nw pe wc c (c * 8) s k).1 le pe wc (pr_rj nw pe wc c (c * 8) s k).2 ex) :
    ∀ d i, i + d = k → wY_unit_297 post J (nI c) hz nw ad (d + 1) (nI i) po ct sp sb (pr_rj nw pe wc c (c * 8) s i).1 le pe wc (pr_rj nw pe wc c (c * 8) s i).2 ex := by
  have hcc : (nI c).toNatClampNeg = c := nI_clamp (by omega)
  have hctc : ct (nI c).toNatClampNeg = nI k := by rw [hcc]; exact hct
  intro d
  induction d with
  | zero =>
    intro i hi
    have e : i = k := by omega
    subst e
    exact ⟨pr_i4 hc, pk_le i i (fun _ => nm_r (nI_1 c) H) (fun z => absurd z (by omega)) hctc⟩
  | succ d ih =>
    intro i hi
    have hin : vp_in (nI (c * 8 + i)) 32 := pr_i32 hc (by omega)
    have hcl : (nI (c * 8 + i)).toNatClampNeg = c * 8 + i := nI_clamp (by omega)
    have W := ih (i + 1) (by omega)
    refine ⟨pr_i4 hc, pk_le k i (fun z => absurd z (by omega)) (fun _ => nm_r (e' := nI (c * 8 + i)) (pr_sl c i) ⟨hin, ?_⟩) hctc⟩
    rw [hcl]
    refine ⟨hp i (by omega), br_c (fun h => ⟨hin, br_c (fun h2 => ?_) (fun h2 => ⟨pr_i4 hc, pr_i4 hc, ?_⟩)⟩) (fun h => nm_r (e' := nI (i + 1)) (nI_1 _) ?_)⟩
    · rw [pr_rj1 h h2] at W
      exact ⟨hin, hin, nm_r (e' := upd (pr_rj nw pe wc c (c * 8) s i).2 (c * 8 + i) (wc (c * 8 + i))) (by rw [hcl]) (nm_r (e' := nI (i + 1)) (nI_1 _) W)⟩
    · rw [pr_rj2 h h2] at W
      exact nm_r (e' := upd (pr_rj nw pe wc c (c * 8) s i).1 c ((pr_rj nw pe wc c (c * 8) s i).1 c + 1)) (by rw [hcc]) ⟨hin, hin, nm_r (e' := upd (pr_rj nw pe wc c (c * 8) s i).2 (c * 8 + i) (wc (c * 8 + i))) (by rw [hcl]) (nm_r (e' := nI (i + 1)) (nI_1 _) W)⟩
    · rw [pr_rj0 h] at W; exact W
theorem pr_yu289 {post : SY → Prop} {s : (Nat → Int32) × (Nat → Int32)} (I : ∀ c, c < 4 → pr_C po ct sp sb pe c)
    (H : post (hz, nw, ad, po, ct, sp, sb, (pr_rl nw ct pe wc s 4).1, le, pe, wc, (pr_rl nw ct pe wc s 4).2, ex)) :
    ∀ d c, c + d = 4 → wY_unit_289 post hz nw ad (d + 1) (nI c) po ct sp sb (pr_rl nw ct pe wc s c).1 le pe wc (pr_rl nw ct pe wc s c).2 ex := by
  intro d
  induction d with
  | zero =>
    intro c hc
    have e : c = 4 := by omega
    subst e
    exact pk_le 4 4 (fun _ => H) (fun z => absurd z (by omega))
  | succ d ih =>
    intro c hc
    have hc4 : c < 4 := by omega
    obtain ⟨-, ⟨k, hk, hct, hpe⟩, -⟩ := I c hc4
    have W := ih (c + 1) (by omega)
    rw [show pr_rl nw ct pe wc s (c + 1) = pr_rj nw pe wc c (c * 8) (pr_rl nw ct pe wc s c) k from by rw [← pr_Ke hct (by omega)]; rfl] at W
    have V := pr_yu297 (post := post) (hz := hz) (ad := ad) hc4 hk hct (pr_nz hpe) W k 0 (by omega)
    exact pk_le 4 c (fun z => absurd z (by omega)) (fun _ => ⟨k + 1, V⟩)
theorem pr_yu241 {post : SY → Prop} (I : ∀ c, c < 4 → pr_C po ct sp sb pe c)
    (H : post (hz, nw, ad, po, ct, sp, sb, (pr_rl nw ct pe wc (mi, re) 4).1, pr_fill (pr_rf nw sp sb le) le 0 4, pe, wc, (pr_rl nw ct pe wc (mi, re) 4).2, ex)) :
    ∀ d c, c + d = 4 → wY_unit_241 post hz nw ad (d + 1) (nI c) po ct sp sb mi (pr_fill (pr_rf nw sp sb le) le 0 c) pe wc re ex := by
  intro d
  induction d with
  | zero =>
    intro c hc
    have e : c = 4 := by omega
    subst e
    exact pk_le 4 4 (fun _ => ⟨5, pr_yu289 (s := (mi, re)) I H 4 0 (by omega)⟩) (fun z => absurd z (by omega))
  | succ d ih =>
    intro c hc
    have hc4 : c < 4 := by omega
    have hcl : (nI c).toNatClampNeg = c := nI_clamp (by omega)
    obtain ⟨-, -, p, q, hp, hq, hsp, hsb⟩ := I c hc4
    have hspc : sp (nI c).toNatClampNeg = nI p := by rw [hcl]; exact hsp
    have W := ih (c + 1) (by omega)
    refine pk_le 4 c (fun z => absurd z (by omega)) (fun _ => ⟨pr_i4 hc4, pk_le p 0 (fun z => nm_r (e' := nI (c + 1)) (nI_1 _) ?_) (fun z => ⟨pr_i4 hc4, ?_⟩) hspc⟩)
    · have h1 : sp c = 0 := by rw [hsp, show p = 0 from by omega]; rfl
      rw [← pr_fillN (show pr_rf nw sp sb le c = le c from if_pos h1)] at W; exact W
    · have h1 : ¬ sp c = 0 := by rw [hsp]; exact nI_ne0 z (by omega)
      rw [hcl]
      refine ⟨h1, br_c (fun h2 => ⟨pr_i4 hc4, pr_i4 hc4, nm_r (e' := pr_fill (pr_rf nw sp sb le) le 0 (c + 1)) ?_ (nm_r (e' := nI (c + 1)) (nI_1 _) W)⟩) (fun h2 => nm_r (e' := nI (c + 1)) (nI_1 _) ?_)⟩
      · have e : sb c = pr_rf nw sp sb le c := by
          show sb c = if sp c = 0 then le c else if pr_rm nw (sp c) = 0 then sb c else le c
          rw [if_neg h1, if_pos (show pr_rm nw (sp c) = 0 from h2)]
        rw [e]; exact pr_fillS (Nat.zero_le _)
      · have e : pr_rf nw sp sb le c = le c := by
          show (if sp c = 0 then le c else if pr_rm nw (sp c) = 0 then sb c else le c) = le c
          rw [if_neg h1, if_neg (show ¬ pr_rm nw (sp c) = 0 from h2)]
        rw [← pr_fillN e] at W; exact W
theorem pr_ytail {post : SY → Prop} (I : ∀ c, c < 4 → pr_C po ct sp sb pe c)
    (H : post (hz, nw + 1, ad, po, ct, sp, sb, (pr_rl (nw + 1) ct pe wc (mi, re) 4).1, pr_fill (pr_rf (nw + 1) sp sb le) le 0 4, pe, wc, (pr_rl (nw + 1) ct pe wc (mi, re) 4).2, ex)) :
    wY_unit_229 post hz nw ad po ct sp sb mi le pe wc re ex := by
  have W := pr_yu241 (le := le) I H 4 0 (by omega)
  rw [pr_fill0] at W
  exact nm_e ⟨5, W⟩
/-! one unit on both sides -/
theorem pr_unit (I : ∀ c, c < 4 → pr_C po ct sp sb pe c) : ∃ re' ex' mi' le' : Nat → Int32,
    (∀ post : SX → Prop, post (hz, nw + 1, ad, po, ct, sp, sb, pe, wc, re', ex', mi', le') → wpX_simulateUnit post (hz, nw, ad, po, ct, sp, sb, pe, wc, re, ex, mi, le)) ∧
    (∀ post : SY → Prop, post (hz, nw + 1, ad, po, ct, sp, sb, mi', le', pe, wc, re', ex') → wpY_unit post (hz, nw, ad, po, ct, sp, sb, mi, le, pe, wc, re, ex)) := by
  cases pr_ch_in (nw := nw) (sp := sp) (le := le) 4 with
  | inl h =>
    refine ⟨(pr_rl (nw + 1) ct pe wc (mi, re) 4).2, ex, (pr_rl (nw + 1) ct pe wc (mi, re) 4).1, pr_fill (pr_rf (nw + 1) sp sb le) le 0 4, fun post H => ?_, fun post H => ⟨5, pr_yu6 I (fun _ => pr_ytail I H) (fun c hc e => ?_) 4 0 (by omega)⟩⟩
    · unfold wpX_simulateUnit
      refine pr_xch ?_
      rw [h]
      exact br_t rfl (pr_xtail I H)
    · rw [h] at e
      have h5 := nI_pos (n := c) (by omega)
      rw [← e] at h5
      exact absurd (by decide) h5
  | inr h =>
    obtain ⟨c, hc, h⟩ := h
    have hcl : (nI c).toNatClampNeg = c := nI_clamp (by omega)
    have hne : ¬ nI c = -1 := by
      intro e
      have h5 := nI_pos (n := c) (by omega)
      rw [e] at h5
      exact h5 (by decide)
    obtain ⟨hpo, ⟨k, hk, hct, hpe⟩, -⟩ := I c hc
    refine ⟨(pr_rl (nw + 1) ct pe wc (mi, (pr_svR (c * 8) re (pr_sel (decide (po c = 0)) nw pe re (c * 8) k).1)) 4).2, pr_svE (c * 8) ex (pr_sel (decide (po c = 0)) nw pe re (c * 8) k).1, (pr_rl (nw + 1) ct pe wc (mi, (pr_svR (c * 8) re (pr_sel (decide (po c = 0)) nw pe re (c * 8) k).1)) 4).1, pr_fill (pr_rf (nw + 1) sp sb (upd le c (le c - 1))) (upd le c (le c - 1)) 0 4, fun post H => ?_, fun post H => ⟨5, pr_yu6 I (fun e => absurd (h.symm.trans e) hne) (fun c' hc' e => ?_) 4 0 (by omega)⟩⟩
    · unfold wpX_simulateUnit
      refine pr_xch ?_
      rw [h]
      refine br_f hne ⟨pr_i4 hc, pr_i4 hc, nm_r (e' := upd le c (le c - 1)) (by rw [hcl]) ?_⟩
      refine pr_xserve hc hk hpo hct (pr_nz hpe) ?_
      exact pr_xtail I H
    · have ec : c = c' := (nI_eq (by omega) (by omega)).mp (h.symm.trans e)
      subst ec
      exact ⟨k + 1, pr_yu98 hc hk hct (pr_nz hpe) (pr_ytail I H) k 0 (by omega)⟩
/-! the loop of run -/
theorem pr_run (I : ∀ c, c < 4 → pr_C po ct sp sb pe c) {n : Nat} (hn : n < 2 ^ 31) : ∀ d i t, i + d = n → ∀ re ex mi le : Nat → Int32, ∃ re' ex' mi' le' : Nat → Int32,
    (∀ post : Int32 → SX → Prop, post (nI n) (hz, nI (t + d), ad, po, ct, sp, sb, pe, wc, re', ex', mi', le') → wX_run_38 post (nI n) (d + 1) (nI i) hz (nI t) ad po ct sp sb pe wc re ex mi le) ∧
    (∀ post : Int32 → SY → Prop, post (nI n) (hz, nI (t + d), ad, po, ct, sp, sb, mi', le', pe, wc, re', ex') → wY_run_35 post (nI n) (d + 1) (nI i) hz (nI t) ad po ct sp sb mi le pe wc re ex) := by
  intro d
  induction d with
  | zero =>
    intro i t hi re ex mi le
    exact ⟨re, ex, mi, le, fun post H => pk_le n i (fun _ => H) (fun z => absurd z (by omega)), fun post H => pk_le n i (fun _ => H) (fun z => absurd z (by omega))⟩
  | succ d ih =>
    intro i t hi re ex mi le
    obtain ⟨re1, ex1, mi1, le1, hX, hY⟩ := pr_unit (hz := hz) (nw := nI t) (ad := ad) (wc := wc) (re := re) (ex := ex) (mi := mi) (le := le) I
    obtain ⟨re2, ex2, mi2, le2, iX, iY⟩ := ih (i + 1) (t + 1) (by omega) re1 ex1 mi1 le1
    rw [nI_1] at hX hY
    rw [show t + 1 + d = t + (d + 1) from by omega] at iX iY
    refine ⟨re2, ex2, mi2, le2, fun post H => pk_le n i (fun z => absurd z (by omega)) (fun _ => hX _ ?_), fun post H => pk_le n i (fun z => absurd z (by omega)) (fun _ => hY _ ?_)⟩
    · exact nm_r (e' := nI (i + 1)) (nI_1 _) (iX post H)
    · exact nm_r (e' := nI (i + 1)) (nI_1 _) (iY post H)
theorem i_vc_run {k : Nat} {u : SX} {v : SY} (I : i_Rel k u v) (hk : k + 4 ≤ 2049) (v1 : Int32) : wpX_run (fun r u' => wpY_run (fun r' v' => r' = r ∧ i_Rel (k + 4) u' v') v v1) u v1 := by
  obtain ⟨hz, nw, ad, po, ct, sp, sb, pe, wc, re, ex, mi, le, rfl, rfl, J⟩ := I
  have R : i_Rel (k + 4) (hz, nw, ad, po, ct, sp, sb, pe, wc, re, ex, mi, le) (hz, nw, ad, po, ct, sp, sb, mi, le, pe, wc, re, ex) := pr_rel J
  obtain ⟨⟨H, t, rfl, rfl, h1, h2, h3⟩, ha, I⟩ := J
  by_cases a : ad = 0
  · exact br_t a (br_t a ⟨rfl, R⟩)
  refine br_f a ?_
  by_cases b : 1 ≤ v1
  · refine br_t b (nm_r (e' := nI (H - t)) (pk_sub h3) ?_)
    by_cases e : nI (H - t) ≤ v1
    · obtain ⟨re', ex', mi', le', hX, hY⟩ := pr_run (hz := nI H) (ad := ad) (wc := wc) I (n := H - t) (by omega) (H - t) 0 t (by omega) re ex mi le
      rw [show t + (H - t) = H from by omega] at hX hY
      refine br_t e ⟨H - t + 1, hX _ ?_⟩
      exact br_f a (br_t b (nm_r (e' := nI (H - t)) (pk_sub h3) (br_t e ⟨H - t + 1, hY _ ⟨rfl, pr_rel ⟨⟨H, H, rfl, rfl, h1, h2, Nat.le_refl _⟩, ha, I⟩⟩⟩)))
    · have n0 : ¬ v1 < 0 := fun y => absurd (Int32.lt_of_le_of_lt b y) (by decide)
      obtain ⟨n, hn, rfl⟩ := nI_of n0
      have hlt : n < H - t := by
        rw [nI_leI (by omega) hn] at e
        omega
      obtain ⟨re', ex', mi', le', hX, hY⟩ := pr_run (hz := nI H) (ad := ad) (wc := wc) I (n := n) hn n 0 t (by omega) re ex mi le
      refine br_f e ⟨n + 1, hX _ ?_⟩
      exact br_f a (br_t b (nm_r (e' := nI (H - t)) (pk_sub h3) (br_f e ⟨n + 1, hY _ ⟨rfl, pr_rel ⟨⟨H, t + n, rfl, rfl, h1, h2, by omega⟩, ha, I⟩⟩⟩)))
  · exact br_f b (br_f a (br_f b ⟨rfl, R⟩))
end PR10
end
section
section PR11
theorem i_vc_getHorizon {k : Nat} {u : SX} {v : SY} (I : i_Rel k u v) (hk : k + 4 ≤ 2049) : wpX_getHorizon (fun r => wpY_getHorizon (fun r' => r' = r ∧ i_Rel (k + 4) u v) v) u := by
  have R : i_Rel (k + 4) u v := I
  obtain ⟨hz, nw, ad, po, ct, sp, sb, pe, wc, re, ex, mi, le, rfl, rfl, J⟩ := I
  exact ⟨rfl, R⟩
theorem i_vc_isAdmitted {k : Nat} {u : SX} {v : SY} (I : i_Rel k u v) (hk : k + 4 ≤ 2049) : wpX_isAdmitted (fun r => wpY_isAdmitted (fun r' => r' = r ∧ i_Rel (k + 4) u v) v) u := by
  have R : i_Rel (k + 4) u v := I
  obtain ⟨hz, nw, ad, po, ct, sp, sb, pe, wc, re, ex, mi, le, rfl, rfl, -, ha, -⟩ := I
  have hn : narrow .boolean (.int ad) = .int ad := by
    cases ha with
    | inl h => rw [h]; rfl
    | inr h => rw [h]; rfl
  exact ⟨hn, hn, rfl, R⟩
theorem i_vc_getTime {k : Nat} {u : SX} {v : SY} (I : i_Rel k u v) (hk : k + 4 ≤ 2049) : wpX_getTime (fun r => wpY_getTime (fun r' => r' = r ∧ i_Rel (k + 4) u v) v) u := by
  have R : i_Rel (k + 4) u v := I
  obtain ⟨hz, nw, ad, po, ct, sp, sb, pe, wc, re, ex, mi, le, rfl, rfl, J⟩ := I
  exact ⟨rfl, R⟩
/-! a time within 0 .. 100000 -/
theorem pr_xtime {post : Int32 → Prop} {x : Int32} (h0 : ¬ (∃ t, t ≤ 100000 ∧ x = nI t) → post 0) (h1 : ∀ t, t ≤ 100000 → x = nI t → post 1) : wpX_isBoundTime post x := by
  refine br_c (fun z => h0 ?_) (fun z => br_c (fun z2 => h0 ?_) (fun z2 => ?_))
  · rintro ⟨t, ht, rfl⟩; exact nI_pos (by omega) z
  · rintro ⟨t, ht, rfl⟩; exact nI_nlt (a := 100000) ht (by omega) z2
  · obtain ⟨t, ht, rfl⟩ := nI_of z
    have h : t ≤ 100000 := by
      have h5 : ¬ nI 100000 < nI t := z2
      rw [nI_ltI (by omega) ht] at h5
      omega
    exact h1 t h rfl
theorem pr_yt {A B C : Prop} {t : Nat} (ht : t ≤ 100000) (b : B) : (nI t < 0 → A) ∧ (¬ nI t < 0 → (nI t ≤ 100000 → B) ∧ (¬ nI t ≤ 100000 → C)) :=
  br_f (nI_pos (by omega)) (br_t (nI_le (b := 100000) ht (by decide)) b)
theorem pr_ytn {A B C : Prop} {x : Int32} (h : ¬ ∃ t, t ≤ 100000 ∧ x = nI t) (a : A) (c : C) : (x < 0 → A) ∧ (¬ x < 0 → (x ≤ 100000 → B) ∧ (¬ x ≤ 100000 → C)) := by
  refine br_c (fun _ => a) (fun z => br_c (fun z2 => ?_) (fun _ => c))
  exfalso
  obtain ⟨t, ht, rfl⟩ := nI_of z
  have h6 : nI t ≤ nI 100000 := z2
  rw [nI_leI ht (by omega)] at h6
  exact h ⟨t, h6, rfl⟩
theorem i_vc_supplyBound {k : Nat} {u : SX} {v : SY} (I : i_Rel k u v) (hk : k + 4 ≤ 2049) (v1 : Int32) (v2 : Int32) (v3 : Int32) : wpX_supplyBound (fun r => wpY_supplyBound (fun r' => r' = r ∧ i_Rel (k + 4) u v) v v1 v2 v3) u v1 v2 v3 := by
  have R : i_Rel (k + 4) u v := I
  obtain ⟨hz, nw, ad, po, ct, sp, sb, pe, wc, re, ex, mi, le, rfl, rfl, J⟩ := I
  unfold wpX_supplyBound
  refine pr_xper (fun z => br_t rfl (pr_yper0 z ⟨rfl, R⟩ ⟨rfl, R⟩)) (fun p hp hp2 e => br_f pr_10 ?_)
  subst e
  by_cases a : v2 < 0
  · exact br_t a (pr_yper hp hp2 (br_t a ⟨rfl, R⟩))
  refine br_f a ?_
  obtain ⟨q, hq, rfl⟩ := nI_of a
  by_cases b : nI p < nI q
  · exact br_t b (pr_yper hp hp2 (br_f a (br_f (Int32.not_le.mpr b) ⟨rfl, R⟩)))
  have b' : nI q ≤ nI p := Int32.not_lt.mp b
  have hqp : q ≤ p := (nI_leI hq (by omega)).mp b'
  refine br_f b ?_
  refine pr_xtime (fun z => br_t rfl (pr_yper hp hp2 (br_f a (br_t b' (pr_ytn z ⟨rfl, R⟩ ⟨rfl, R⟩))))) (fun t ht e => br_f pr_10 ?_)
  subst e
  refine pr_xsup hp hp2 hqp ht ?_
  exact pr_yper hp hp2 (br_f a (br_t b' (pr_yt ht (pr_ysbf hp hp2 hqp ht ⟨rfl, R⟩))))
theorem i_vc_demandBound {k : Nat} {u : SX} {v : SY} (I : i_Rel k u v) (hk : k + 4 ≤ 2049) (v1 : Int32) (v2 : Int32) : wpX_demandBound (fun r => wpY_demandBound (fun r' => r' = r ∧ i_Rel (k + 4) u v) v v1 v2) u v1 v2 := by
  have R : i_Rel (k + 4) u v := I
  obtain ⟨hz, nw, ad, po, ct, sp, sb, pe, wc, re, ex, mi, le, rfl, rfl, -, -, I⟩ := I
  unfold wpX_demandBound
  refine pr_xcomp (fun z => br_t rfl (pr_yn z ⟨rfl, R⟩ ⟨rfl, R⟩)) (fun c hc e => br_f pr_10 ?_)
  subst e
  obtain ⟨-, ⟨n, hn, hct, hpe⟩, -⟩ := I c hc
  refine pr_xtime (fun z => br_t rfl (pr_yc hc (pr_ytn z ⟨rfl, R⟩ ⟨rfl, R⟩))) (fun t ht e => br_f pr_10 ?_)
  subst e
  refine pr_xdemand hc hn hct (pr_nz hpe) ?_
  exact pr_yc hc (pr_yt ht (pr_ydbf hc hn hct (pr_nz hpe) ⟨rfl, R⟩))
/-! a task of a component -/
theorem pr_xtask {post : Int32 → Prop} {hz nw ad : Int32} {po ct sp sb pe wc re ex mi le : Nat → Int32} {x y : Int32} (I : ∀ c, c < 4 → pr_C po ct sp sb pe c)
    (h0 : ¬ (∃ c, c < 4 ∧ x = nI c) → post 0) (h1 : ∀ c, c < 4 → x = nI c → ¬ (∃ j n, j < n ∧ n ≤ 8 ∧ ct c = nI n ∧ y = nI j) → post 0) (h2 : ∀ c, c < 4 → x = nI c → ∀ j n, j < n → n ≤ 8 → ct c = nI n → y = nI j → post 1) :
    wpX_isTask post (hz, nw, ad, po, ct, sp, sb, pe, wc, re, ex, mi, le) x y := by
  unfold wpX_isTask
  refine pr_xcomp (fun z => br_t rfl (h0 z)) (fun c hc e => br_f pr_10 ?_)
  subst e
  have hcl : (nI c).toNatClampNeg = c := nI_clamp (by omega)
  obtain ⟨-, ⟨n, hn, hct, -⟩, -⟩ := I c hc
  refine br_c (fun z => h1 c hc rfl ?_) (fun z => ⟨pr_i4 hc, ?_⟩)
  · rintro ⟨j, m, h, hm, -, rfl⟩; exact nI_pos (by omega) z
  · obtain ⟨j, hj, rfl⟩ := nI_of z
    have hcc : ct (nI c).toNatClampNeg = nI n := by rw [hcl]; exact hct
    refine pk_le n j (fun y => h1 c hc rfl ?_) (fun y => h2 c hc rfl j n y hn hct rfl) hcc
    rintro ⟨j2, m, h, hm, e1, e2⟩
    have e3 : n = m := (nI_eq (by omega) (by omega)).mp (hct.symm.trans e1)
    have e4 : j = j2 := (nI_eq hj (by omega)).mp e2
    omega
/-! Y: the same test -/
theorem pr_ytask {ct : Nat → Int32} {A B C : Prop} {c j n : Nat} (hc : c < 4) (hj : j < n) (hn : n ≤ 8) (hct : ct c = nI n) (b : B) : (nI j < 0 → A) ∧ (¬ nI j < 0 → (vp_in (nI c) 4 ∧ ((nI j < ct (nI c).toNatClampNeg → B) ∧ (¬ nI j < ct (nI c).toNatClampNeg → C)))) := by
  have hcc : ct (nI c).toNatClampNeg = nI n := by rw [pr_cl (c := c) (by omega)]; exact hct
  exact br_f (nI_pos (by omega)) ⟨pr_i4 hc, br_t (by rw [hcc]; exact nI_lt hj (by omega)) b⟩
theorem pr_ytaskn {po ct sp sb pe : Nat → Int32} {A B C : Prop} {c : Nat} {y : Int32} (hc : c < 4) (I : ∀ c, c < 4 → pr_C po ct sp sb pe c) (h : ¬ (∃ j n, j < n ∧ n ≤ 8 ∧ ct c = nI n ∧ y = nI j)) (a : A) (d : C) : (y < 0 → A) ∧ (¬ y < 0 → (vp_in (nI c) 4 ∧ ((y < ct (nI c).toNatClampNeg → B) ∧ (¬ y < ct (nI c).toNatClampNeg → C)))) := by
  obtain ⟨-, ⟨n, hn, hct, -⟩, -⟩ := I c hc
  have hcc : ct (nI c).toNatClampNeg = nI n := by rw [pr_cl (c := c) (by omega)]; exact hct
  refine br_c (fun _ => a) (fun z => ⟨pr_i4 hc, br_c (fun z2 => ?_) (fun _ => d)⟩)
  exfalso
  obtain ⟨j, hj, rfl⟩ := nI_of z
  rw [hcc, nI_ltI hj (by omega)] at z2
  exact h ⟨j, n, z2, hn, hct, rfl⟩
theorem i_vc_requestBound {k : Nat} {u : SX} {v : SY} (I : i_Rel k u v) (hk : k + 4 ≤ 2049) (v1 : Int32) (v2 : Int32) (v3 : Int32) : wpX_requestBound (fun r => wpY_requestBound (fun r' => r' = r ∧ i_Rel (k + 4) u v) v v1 v2 v3) u v1 v2 v3 := by
  have R : i_Rel (k + 4) u v := I
  obtain ⟨hz, nw, ad, po, ct, sp, sb, pe, wc, re, ex, mi, le, rfl, rfl, -, -, I⟩ := I
  unfold wpX_requestBound
  refine pr_xtask I (fun z => br_t rfl (pr_yn z ⟨rfl, R⟩ ⟨rfl, R⟩)) (fun c hc e z => br_t rfl ?_) (fun c hc e j n hj hn hct e2 => br_f pr_10 ?_)
  · subst e
    exact pr_yc hc (pr_ytaskn hc I z ⟨rfl, R⟩ ⟨rfl, R⟩)
  · subst e
    subst e2
    have hp : ∀ i, i < j + 1 → ¬ pe (c * 8 + i) = 0 := by
      obtain ⟨-, ⟨m, hm, hct2, hpe⟩, -⟩ := I c hc
      have e3 : n = m := (nI_eq (by omega) (by omega)).mp (hct.symm.trans hct2)
      exact fun i hi => pr_nz hpe i (by omega)
    refine pr_xtime (fun z => br_t rfl (pr_yc hc (pr_ytask hc hj hn hct (pr_ytn z ⟨rfl, R⟩ ⟨rfl, R⟩)))) (fun t ht e => br_f pr_10 ?_)
    subst e
    refine pr_xrequest hc (by omega) hp ?_
    exact pr_yc hc (pr_ytask hc hj hn hct (pr_yt ht (pr_yrbf hc (by omega) hp ⟨rfl, R⟩)))
theorem i_vc_getMisses {k : Nat} {u : SX} {v : SY} (I : i_Rel k u v) (hk : k + 4 ≤ 2049) (v1 : Int32) : wpX_getMisses (fun r => wpY_getMisses (fun r' => r' = r ∧ i_Rel (k + 4) u v) v v1) u v1 := by
  have R : i_Rel (k + 4) u v := I
  obtain ⟨hz, nw, ad, po, ct, sp, sb, pe, wc, re, ex, mi, le, rfl, rfl, -⟩ := I
  unfold wpX_getMisses
  refine pr_xcomp (fun z => br_t rfl (pr_yn z ⟨rfl, R⟩ ⟨rfl, R⟩)) (fun c hc e => br_f pr_10 ?_)
  subst e
  exact ⟨pr_i4 hc, pr_yc hc ⟨pr_i4 hc, rfl, R⟩⟩
theorem i_vc_getBudgetLeft {k : Nat} {u : SX} {v : SY} (I : i_Rel k u v) (hk : k + 4 ≤ 2049) (v1 : Int32) : wpX_getBudgetLeft (fun r => wpY_getBudgetLeft (fun r' => r' = r ∧ i_Rel (k + 4) u v) v v1) u v1 := by
  have R : i_Rel (k + 4) u v := I
  obtain ⟨hz, nw, ad, po, ct, sp, sb, pe, wc, re, ex, mi, le, rfl, rfl, -⟩ := I
  unfold wpX_getBudgetLeft
  refine pr_xcomp (fun z => br_t rfl (pr_yn z ⟨rfl, R⟩ ⟨rfl, R⟩)) (fun c hc e => br_f pr_10 ?_)
  subst e
  exact ⟨pr_i4 hc, pr_yc hc ⟨pr_i4 hc, rfl, R⟩⟩
theorem i_vc_getComponent {k : Nat} {u : SX} {v : SY} (I : i_Rel k u v) (hk : k + 4 ≤ 2049) (v1 : Int32) (v2 : Int32) : wpX_getComponent (fun r => wpY_getComponent (fun r' => r' = r ∧ i_Rel (k + 4) u v) v v1 v2) u v1 v2 := by
  have R : i_Rel (k + 4) u v := I
  obtain ⟨hz, nw, ad, po, ct, sp, sb, pe, wc, re, ex, mi, le, rfl, rfl, -, -, I⟩ := I
  unfold wpX_getComponent
  refine pr_xcomp (fun z => br_t rfl (pr_yn z ⟨rfl, R⟩ ⟨rfl, R⟩)) (fun c hc e => br_f pr_10 ?_)
  subst e
  have hcl : (nI c).toNatClampNeg = c := nI_clamp (by omega)
  by_cases a : v2 < 0
  · exact br_t a (pr_yc hc (br_t a ⟨rfl, R⟩))
  refine br_f a ?_
  by_cases b : 3 < v2
  · exact br_t b (pr_yc hc (br_f a (br_f (Int32.not_le.mpr b) ⟨rfl, R⟩)))
  have b' : v2 ≤ 3 := Int32.not_lt.mp b
  refine br_f b ?_
  by_cases f0 : v2 = 0
  · exact br_t f0 ⟨pr_i4 hc, pr_yc hc (br_f a (br_t b' (br_t f0 ⟨pr_i4 hc, rfl, R⟩)))⟩
  refine br_f f0 ?_
  by_cases f1 : v2 = 1
  · exact br_t f1 ⟨pr_i4 hc, pr_yc hc (br_f a (br_t b' (br_f f0 (br_t f1 ⟨pr_i4 hc, rfl, R⟩))))⟩
  refine br_f f1 ?_
  have hs : sp (nI c).toNatClampNeg = sp c := by rw [hcl]
  by_cases f2 : v2 = 2
  · refine br_t f2 (pr_xhas hc (fun y => br_t rfl ?_) (fun y => br_f pr_10 ⟨pr_i4 hc, ?_⟩))
    · exact pr_yc hc (br_f a (br_t b' (br_f f0 (br_f f1 ⟨pr_i4 hc, br_t (hs.trans y) ⟨rfl, R⟩⟩))))
    · exact pr_yc hc (br_f a (br_t b' (br_f f0 (br_f f1 ⟨pr_i4 hc, br_f (fun w => y (hs.symm.trans w)) (br_t f2 ⟨pr_i4 hc, rfl, R⟩)⟩))))
  refine br_f f2 ?_
  by_cases f3 : v2 = 3
  · refine br_t f3 (pr_xhas hc (fun y => br_t rfl ?_) (fun y => br_f pr_10 ⟨pr_i4 hc, ?_⟩))
    · exact pr_yc hc (br_f a (br_t b' (br_f f0 (br_f f1 ⟨pr_i4 hc, br_t (hs.trans y) ⟨rfl, R⟩⟩))))
    · exact pr_yc hc (br_f a (br_t b' (br_f f0 (br_f f1 ⟨pr_i4 hc, br_f (fun w => y (hs.symm.trans w)) (br_f f2 ⟨pr_i4 hc, rfl, R⟩)⟩))))
  · exact br_f f3 trivial
theorem i_vc_getTask {k : Nat} {u : SX} {v : SY} (I : i_Rel k u v) (hk : k + 4 ≤ 2049) (v1 : Int32) (v2 : Int32) (v3 : Int32) : wpX_getTask (fun r => wpY_getTask (fun r' => r' = r ∧ i_Rel (k + 4) u v) v v1 v2 v3) u v1 v2 v3 := by
  have R : i_Rel (k + 4) u v := I
  obtain ⟨hz, nw, ad, po, ct, sp, sb, pe, wc, re, ex, mi, le, rfl, rfl, -, -, I⟩ := I
  unfold wpX_getTask
  refine pr_xtask I (fun z => br_t rfl (pr_yn z ⟨rfl, R⟩ ⟨rfl, R⟩)) (fun c hc e z => br_t rfl ?_) (fun c hc e j n hj hn hct e2 => br_f pr_10 ?_)
  · subst e
    exact pr_yc hc (pr_ytaskn hc I z ⟨rfl, R⟩ ⟨rfl, R⟩)
  · subst e
    subst e2
    have hin : vp_in (nI (c * 8 + j)) 32 := pr_i32 hc (by omega)
    refine nm_r (e' := nI (c * 8 + j)) (pr_sl c j) ?_
    by_cases a : v3 < 0
    · exact br_t a (pr_yc hc (pr_ytask hc hj hn hct (br_t a ⟨rfl, R⟩)))
    refine br_f a ?_
    by_cases b : 3 < v3
    · exact br_t b (pr_yc hc (pr_ytask hc hj hn hct (br_f a (br_f (Int32.not_le.mpr b) ⟨rfl, R⟩))))
    have b' : v3 ≤ 3 := Int32.not_lt.mp b
    refine br_f b ?_
    by_cases f0 : v3 = 0
    · exact br_t f0 ⟨hin, pr_yc hc (pr_ytask hc hj hn hct (br_f a (br_t b' (nm_r (e' := nI (c * 8 + j)) (pr_sl c j) (br_t f0 ⟨hin, rfl, R⟩)))))⟩
    refine br_f f0 ?_
    by_cases f1 : v3 = 1
    · exact br_t f1 ⟨hin, pr_yc hc (pr_ytask hc hj hn hct (br_f a (br_t b' (nm_r (e' := nI (c * 8 + j)) (pr_sl c j) (br_f f0 (br_t f1 ⟨hin, rfl, R⟩))))))⟩
    refine br_f f1 ?_
    by_cases f2 : v3 = 2
    · exact br_t f2 ⟨hin, pr_yc hc (pr_ytask hc hj hn hct (br_f a (br_t b' (nm_r (e' := nI (c * 8 + j)) (pr_sl c j) (br_f f0 (br_f f1 (br_t f2 ⟨hin, rfl, R⟩)))))))⟩
    refine br_f f2 ?_
    by_cases f3 : v3 = 3
    · exact br_t f3 ⟨hin, pr_yc hc (pr_ytask hc hj hn hct (br_f a (br_t b' (nm_r (e' := nI (c * 8 + j)) (pr_sl c j) (br_f f0 (br_f f1 (br_f f2 ⟨hin, rfl, R⟩)))))))⟩
    · exact br_f f3 trivial
end PR11
end
