section
section PR01
end PR01
end
section
section PR02
/-! arrays filled between two places; a component's slots -/
def pr_fill (g a : Nat → Int32) (b e : Nat) : Nat → Int32 := fun j => if b ≤ j ∧ j < e then g j else a j
theorem pr_fill0 {g a : Nat → Int32} {b : Nat} : pr_fill g a b b = a := funext fun j => if_neg (by omega)
theorem pr_fill00 {g a : Nat → Int32} {b : Nat} : pr_fill g a b (b + 0) = a := pr_fill0
theorem pr_fillS {g a : Nat → Int32} {b e : Nat} (hb : b ≤ e) : upd (pr_fill g a b e) e (g e) = pr_fill g a b (e + 1) := by
  funext j
  show (if j = e then g e else if b ≤ j ∧ j < e then g j else a j) = if b ≤ j ∧ j < e + 1 then g j else a j
  by_cases h : j = e
  · subst h
    rw [if_pos rfl, if_pos ⟨hb, by omega⟩]
  · rw [if_neg h]
    by_cases h2 : b ≤ j ∧ j < e
    · rw [if_pos h2, if_pos ⟨h2.1, by omega⟩]
    · rw [if_neg h2, if_neg (by omega)]
theorem pr_fillN {g a : Nat → Int32} {b e : Nat} (he : g e = a e) : pr_fill g a b e = pr_fill g a b (e + 1) := by
  funext j
  show (if b ≤ j ∧ j < e then g j else a j) = if b ≤ j ∧ j < e + 1 then g j else a j
  by_cases h : j = e
  · subst h
    rw [if_neg (by omega)]
    by_cases h2 : b ≤ j ∧ j < j + 1
    · rw [if_pos h2, he]
    · rw [if_neg h2]
  · by_cases h2 : b ≤ j ∧ j < e
    · rw [if_pos h2, if_pos ⟨h2.1, by omega⟩]
    · rw [if_neg h2, if_neg (by omega)]
theorem pr_fillA {g a : Nat → Int32} {b e : Nat} : pr_fill g a b e e = a e := if_neg (by omega)
def pr_K (ct : Nat → Int32) (c : Nat) : Nat := (ct c).toNatClampNeg
theorem pr_Ke {ct : Nat → Int32} {c k : Nat} (h : ct c = nI k) (hk : k < 2 ^ 31) : pr_K ct c = k := by
  show (ct c).toNatClampNeg = k
  rw [h]
  exact nI_clamp hk
theorem pr_m8 (c : Nat) : nI c * 8 = nI (c * 8) := pk_mul c 8
theorem pr_sl (c i : Nat) : nI c * 8 + nI i = nI (c * 8 + i) := by rw [pr_m8]; exact nI_add _ _
theorem pr_cl {c : Nat} (hc : c < 2 ^ 31) : (nI c).toNatClampNeg = c := nI_clamp hc
theorem pr_i4 {c : Nat} (hc : c < 4) : vp_in (nI c) 4 := vp_in_nI hc (by omega)
theorem pr_i32 {c i : Nat} (hc : c < 4) (hi : i < 8) : vp_in (nI (c * 8 + i)) 32 := vp_in_nI (by omega) (by omega)
theorem pr_10 : ¬ (1 : Int32) = 0 := by decide
/-! yes or no as an int -/
def pr_b (b : Bool) : Int32 := match b with
  | true => 1
  | false => 0
theorem pr_bn (b : Bool) : narrow .boolean (.int (pr_b b)) = .int (pr_b b) := by cases b <;> rfl
theorem pr_bf (b : Bool) : fits .boolean (.int (pr_b b)) = true := by cases b <;> rfl
/-! searches -/
def pr_all (f : Nat → Bool) : Nat → Nat → Bool
  | _, 0 => true
  | i, d + 1 => f i && pr_all f (i + 1) d
def pr_any (f : Nat → Bool) : Nat → Nat → Bool
  | _, 0 => false
  | i, d + 1 => f i || pr_any f (i + 1) d
def pr_ls (f : Nat → Bool) : Nat → Nat → Option Nat
  | _, 0 => none
  | i, d + 1 => match f i with
    | true => some i
    | false => pr_ls f (i + 1) d
theorem pr_all_t {f : Nat → Bool} {i d : Nat} (h : f i = true) : pr_all f i (d + 1) = pr_all f (i + 1) d := by
  show (f i && pr_all f (i + 1) d) = _
  rw [h]; rfl
theorem pr_all_f {f : Nat → Bool} {i d : Nat} (h : f i = false) : pr_all f i (d + 1) = false := by
  show (f i && pr_all f (i + 1) d) = _
  rw [h]; rfl
theorem pr_any_t {f : Nat → Bool} {i d : Nat} (h : f i = true) : pr_any f i (d + 1) = true := by
  show (f i || pr_any f (i + 1) d) = _
  rw [h]; rfl
theorem pr_any_f {f : Nat → Bool} {i d : Nat} (h : f i = false) : pr_any f i (d + 1) = pr_any f (i + 1) d := by
  show (f i || pr_any f (i + 1) d) = _
  rw [h]; rfl
theorem pr_ls_t {f : Nat → Bool} {i d : Nat} (h : f i = true) : pr_ls f i (d + 1) = some i := by
  show (match f i with | true => some i | false => pr_ls f (i + 1) d) = _
  rw [h]
theorem pr_ls_f {f : Nat → Bool} {i d : Nat} (h : f i = false) : pr_ls f i (d + 1) = pr_ls f (i + 1) d := by
  show (match f i with | true => some i | false => pr_ls f (i + 1) d) = _
  rw [h]
theorem pr_ls_in {f : Nat → Bool} : ∀ d i q, pr_ls f i d = some q → i ≤ q ∧ q < i + d := by
  intro d
  induction d with
  | zero => intro i q h; exact absurd h (by intro z; cases z)
  | succ d ih =>
    intro i q h
    cases e : f i with
    | true =>
      rw [pr_ls_t e] at h
      cases h
      omega
    | false =>
      rw [pr_ls_f e] at h
      have := ih (i + 1) q h
      omega
def pr_ans : Option Nat → Int32
  | none => -2
  | some q => nI q
/-! the invariant -/
def pr_C (po ct sp sb pe : Nat → Int32) (c : Nat) : Prop :=
  (po c = 0 ∨ po c = 1) ∧ (∃ k, k ≤ 8 ∧ ct c = nI k ∧ ∀ i, i < k → ∃ p, 1 ≤ p ∧ p ≤ 64 ∧ pe (c * 8 + i) = nI p) ∧ (∃ p q, p ≤ 32 ∧ q ≤ p ∧ sp c = nI p ∧ sb c = nI q)
def pr_Inv (hz nw ad : Int32) (po ct sp sb pe : Nat → Int32) : Prop :=
  (∃ H t : Nat, hz = nI H ∧ nw = nI t ∧ 64 ≤ H ∧ H ≤ 256 ∧ t ≤ H) ∧ (ad = 0 ∨ ad = 1) ∧ ∀ c, c < 4 → pr_C po ct sp sb pe c
end PR02
end
section
section PR03
variable {hz nw ad : Int32} {po ct sp sb pe wc re ex mi le : Nat → Int32}
/-! has an interface -/
theorem pr_xhas {post : Int32 → Prop} {c : Nat} (hc : c < 4) (h0 : sp c = 0 → post 0) (h1 : ¬ sp c = 0 → post 1) : wpX_hasInterface post (hz, nw, ad, po, ct, sp, sb, pe, wc, re, ex, mi, le) (nI c) := by
  refine ⟨pr_i4 hc, ?_⟩
  rw [pr_cl (c := c) (by omega)]
  exact ⟨h0, h1⟩
/-! RESET, each side against the filled arrays -/
def pr_rsL (sp sb : Nat → Int32) : Nat → Int32 := fun c => if sp c = 0 then 0 else sb c
def pr_rsR (g ct a : Nat → Int32) : Nat → (Nat → Int32)
  | 0 => a
  | c + 1 => pr_fill g (pr_rsR g ct a c) (c * 8) (c * 8 + pr_K ct c)
theorem pr_x60 {post : St2 → Prop} {J : Int32 → (Nat → Int32) → (Nat → Int32) → (Nat → Int32) → (Nat → Int32) → (Nat → Int32) → (Nat → Int32) → (Nat → Int32) → (Nat → Int32) → (Nat → Int32) → (Nat → Int32) → Prop} {c k : Nat} (hc : c < 4) (hk : k ≤ 8)
    (H : J (nI (c + 1)) po ct sp sb pe wc (pr_fill wc re (c * 8) (c * 8 + k)) (pr_fill (fun _ => 0) ex (c * 8) (c * 8 + k)) mi le) :
    ∀ d i, i + d = k → wX_reset_60 post J (nI c) (nI (c * 8 + k)) hz nw ad (d + 1) (nI (c * 8 + i)) po ct sp sb pe wc (pr_fill wc re (c * 8) (c * 8 + i)) (pr_fill (fun _ => 0) ex (c * 8) (c * 8 + i)) mi le := by
  intro d
  induction d with
  | zero =>
    intro i hi
    have e : i = k := by omega
    subst e
    exact pk_le (c * 8 + i) (c * 8 + i) (fun _ => nm_r (nI_1 c) H) (fun z => absurd z (by omega))
  | succ d ih =>
    intro i hi
    have hin : vp_in (nI (c * 8 + i)) 32 := pr_i32 hc (by omega)
    have hcl : (nI (c * 8 + i)).toNatClampNeg = c * 8 + i := nI_clamp (by omega)
    refine pk_le (c * 8 + k) (c * 8 + i) (fun z => absurd z (by omega)) (fun _ => ⟨hin, hin, nm_r (e' := pr_fill wc re (c * 8) (c * 8 + (i + 1))) ?_ ⟨hin, nm_r (e' := pr_fill (fun _ => 0) ex (c * 8) (c * 8 + (i + 1))) ?_ (nm_r (e' := nI (c * 8 + (i + 1))) (nI_1 _) (ih (i + 1) (by omega)))⟩⟩)
    · rw [hcl]; exact pr_fillS (by omega)
    · rw [hcl]; exact pr_fillS (g := fun _ => 0) (by omega)
theorem pr_x42 {post : St2 → Prop} {J : Int32 → (Nat → Int32) → (Nat → Int32) → (Nat → Int32) → (Nat → Int32) → (Nat → Int32) → (Nat → Int32) → (Nat → Int32) → (Nat → Int32) → (Nat → Int32) → (Nat → Int32) → Prop} {c k : Nat} {z0 : Int32} (hc : c < 4) (hk : k ≤ 8) (hct : ct c = nI k) (hz0 : z0 = pr_rsL sp sb c)
    (H : J (nI (c + 1)) po ct sp sb pe wc (pr_fill wc re (c * 8) (c * 8 + k)) (pr_fill (fun _ => 0) ex (c * 8) (c * 8 + k)) mi (pr_fill (pr_rsL sp sb) le 0 (c + 1))) :
    wX_reset_42 post J (nI c) z0 (nI c) hz nw ad po ct sp sb pe wc re ex mi (pr_fill (pr_rsL sp sb) le 0 c) := by
  have hcl : (nI c).toNatClampNeg = c := nI_clamp (by omega)
  have W := pr_x60 (post := post) (hz := hz) (nw := nw) (ad := ad) hc hk H k 0 (by omega)
  rw [pr_fill00, pr_fill00] at W
  refine ⟨pr_i4 hc, nm_r (e' := pr_fill (pr_rsL sp sb) le 0 (c + 1)) ?_ (nm_r (e' := nI (c * 8)) (pr_m8 c) ⟨pr_i4 hc, nm_r (e' := nI (c * 8 + k)) ?_ ⟨k + 1, W⟩⟩)⟩
  · rw [hcl, hz0]; exact pr_fillS (Nat.zero_le _)
  · rw [hcl, hct]; exact nI_add _ _
theorem pr_x7 {post : St2 → Prop} (I : ∀ c, c < 4 → pr_C po ct sp sb pe c)
    (H : post (hz, nw, ad, po, ct, sp, sb, pe, wc, pr_rsR wc ct re 4, pr_rsR (fun _ => 0) ct ex 4, pr_fill (fun _ => 0) mi 0 4, pr_fill (pr_rsL sp sb) le 0 4)) :
    ∀ d c, c + d = 4 → wX_reset_7 post hz nw ad (d + 1) (nI c) po ct sp sb pe wc (pr_rsR wc ct re c) (pr_rsR (fun _ => 0) ct ex c) (pr_fill (fun _ => 0) mi 0 c) (pr_fill (pr_rsL sp sb) le 0 c) := by
  intro d
  induction d with
  | zero =>
    intro c hc
    have e : c = 4 := by omega
    subst e
    exact pk_le 4 4 (fun _ => H) (fun z => absurd z (by omega))
  | succ d ih =>
    intro c hc
    have hc4 : c < 4 := by omega
    have hcl : (nI c).toNatClampNeg = c := nI_clamp (by omega)
    obtain ⟨-, ⟨k, hk, hct, -⟩, -⟩ := I c hc4
    have hK : pr_K ct c = k := pr_Ke hct (by omega)
    have W := ih (c + 1) (by omega)
    rw [show pr_rsR wc ct re (c + 1) = pr_fill wc (pr_rsR wc ct re c) (c * 8) (c * 8 + k) from by rw [← hK]; rfl, show pr_rsR (fun _ => 0) ct ex (c + 1) = pr_fill (fun _ => 0) (pr_rsR (fun _ => 0) ct ex c) (c * 8) (c * 8 + k) from by rw [← hK]; rfl] at W
    refine pk_le 4 c (fun z => absurd z (by omega)) (fun _ => ⟨pr_i4 hc4, nm_r (e' := pr_fill (fun _ => 0) mi 0 (c + 1)) ?_ (pr_xhas hc4 (fun z => br_t rfl (pr_x42 hc4 hk hct ?_ W)) (fun z => br_f pr_10 ⟨pr_i4 hc4, pr_x42 hc4 hk hct ?_ W⟩))⟩)
    · rw [hcl]; exact pr_fillS (g := fun _ => 0) (Nat.zero_le _)
    · exact (if_pos z).symm
    · rw [hcl]; exact (if_neg z).symm
theorem pr_xreset {post : St2 → Prop} (I : ∀ c, c < 4 → pr_C po ct sp sb pe c)
    (H : post (hz, 0, ad, po, ct, sp, sb, pe, wc, pr_rsR wc ct re 4, pr_rsR (fun _ => 0) ct ex 4, pr_fill (fun _ => 0) mi 0 4, pr_fill (pr_rsL sp sb) le 0 4)) :
    wpX_reset post (hz, nw, ad, po, ct, sp, sb, pe, wc, re, ex, mi, le) := by
  have W := pr_x7 (wc := wc) (re := re) (ex := ex) (mi := mi) (le := le) I H 4 0 (by omega)
  rw [pr_fill0, pr_fill0] at W
  exact ⟨5, W⟩
theorem pr_xinval {post : St2 → Prop} (I : ∀ c, c < 4 → pr_C po ct sp sb pe c)
    (H : post (hz, 0, 0, po, ct, sp, sb, pe, wc, pr_rsR wc ct re 4, pr_rsR (fun _ => 0) ct ex 4, pr_fill (fun _ => 0) mi 0 4, pr_fill (pr_rsL sp sb) le 0 4)) :
    wpX_invalidate post (hz, nw, ad, po, ct, sp, sb, pe, wc, re, ex, mi, le) := by
  unfold wpX_invalidate
  exact pr_xreset I H
/-! the reference -/
end PR03
end
section
section PR04
variable {hz nw ad : Int32} {po ct sp sb pe wc re ex mi le : Nat → Int32}
/-! demand -/
def pr_dm (pe wc : Nat → Int32) (t : Int32) (b : Nat) : Nat → Int32
  | 0 => 0
  | d + 1 => pr_dm pe wc t b d + t / pe (b + d) * wc (b + d)
theorem pr_xdm23 {post : Int32 → Prop} {t : Int32} {c k : Nat} (hc : c < 4) (hk : k ≤ 8) (hp : ∀ i, i < k → ¬ pe (c * 8 + i) = 0)
    (H : post (pr_dm pe wc t (c * 8) k)) :
    ∀ d i, i + d = k → wX_demand_23 post t (nI (c * 8 + k)) hz nw ad po ct sp sb pe wc re ex mi le (d + 1) (pr_dm pe wc t (c * 8) i) (nI (c * 8 + i)) := by
  intro d
  induction d with
  | zero =>
    intro i hi
    have e : i = k := by omega
    subst e
    exact pk_le (c * 8 + i) (c * 8 + i) (fun _ => H) (fun z => absurd z (by omega))
  | succ d ih =>
    intro i hi
    have hin : vp_in (nI (c * 8 + i)) 32 := pr_i32 hc (by omega)
    have hcl : (nI (c * 8 + i)).toNatClampNeg = c * 8 + i := nI_clamp (by omega)
    refine pk_le (c * 8 + k) (c * 8 + i) (fun z => absurd z (by omega)) (fun _ => ⟨hin, ?_, hin, nm_r (e' := pr_dm pe wc t (c * 8) (i + 1)) ?_ (nm_r (e' := nI (c * 8 + (i + 1))) (nI_1 _) (ih (i + 1) (by omega)))⟩)
    · rw [hcl]; exact hp i (by omega)
    · rw [hcl]; rfl
theorem pr_xdemand {post : Int32 → Prop} {t : Int32} {c k : Nat} (hc : c < 4) (hk : k ≤ 8) (hct : ct c = nI k) (hp : ∀ i, i < k → ¬ pe (c * 8 + i) = 0)
    (H : post (pr_dm pe wc t (c * 8) k)) : wpX_demand post (hz, nw, ad, po, ct, sp, sb, pe, wc, re, ex, mi, le) (nI c) t := by
  have hcl : (nI c).toNatClampNeg = c := nI_clamp (by omega)
  refine nm_r (e' := nI (c * 8)) (pr_m8 c) ⟨pr_i4 hc, nm_r (e' := nI (c * 8 + k)) ?_ ⟨k + 1, pr_xdm23 hc hk hp H k 0 (by omega)⟩⟩
  rw [hcl, hct]; exact nI_add _ _
/-! request, over the first j + 1 tasks -/
def pr_rq (pe wc : Nat → Int32) (t : Int32) (b : Nat) : Nat → Int32
  | 0 => 0
  | d + 1 => pr_rq pe wc t b d + (t + pe (b + d) - 1) / pe (b + d) * wc (b + d)
theorem pr_xrq19 {post : Int32 → Prop} {t : Int32} {c j : Nat} (hc : c < 4) (hj : j < 8) (hp : ∀ i, i < j + 1 → ¬ pe (c * 8 + i) = 0)
    (H : post (pr_rq pe wc t (c * 8) (j + 1))) :
    ∀ d i, i + d = j + 1 → wX_request_19 post t (nI (c * 8 + j)) hz nw ad po ct sp sb pe wc re ex mi le (d + 1) (pr_rq pe wc t (c * 8) i) (nI (c * 8 + i)) := by
  intro d
  induction d with
  | zero =>
    intro i hi
    have e : i = j + 1 := by omega
    subst e
    exact pk_lt (c * 8 + j) (c * 8 + (j + 1)) (fun _ => H) (fun z => absurd z (by omega))
  | succ d ih =>
    intro i hi
    have hin : vp_in (nI (c * 8 + i)) 32 := pr_i32 hc (by omega)
    have hcl : (nI (c * 8 + i)).toNatClampNeg = c * 8 + i := nI_clamp (by omega)
    refine pk_lt (c * 8 + j) (c * 8 + i) (fun z => absurd z (by omega)) (fun _ => ⟨hin, nm_r (e' := pe (c * 8 + i)) (by rw [hcl]) ⟨hp i (by omega), hin, nm_r (e' := pr_rq pe wc t (c * 8) (i + 1)) ?_ (nm_r (e' := nI (c * 8 + (i + 1))) (nI_1 _) (ih (i + 1) (by omega)))⟩⟩)
    rw [hcl]; rfl
theorem pr_xrequest {post : Int32 → Prop} {t : Int32} {c j : Nat} (hc : c < 4) (hj : j < 8) (hp : ∀ i, i < j + 1 → ¬ pe (c * 8 + i) = 0)
    (H : post (pr_rq pe wc t (c * 8) (j + 1))) : wpX_request post (hz, nw, ad, po, ct, sp, sb, pe, wc, re, ex, mi, le) (nI c) (nI j) t :=
  nm_r (e' := nI (c * 8)) (pr_m8 c) (nm_r (e' := nI (c * 8 + j)) (nI_add _ _) ⟨j + 1 + 1, pr_xrq19 hc hj hp H (j + 1) 0 (by omega)⟩)
/-! supply, in naturals -/
def pr_sb (p q t : Nat) : Nat := if q = 0 ∨ t ≤ p - q then 0 else (t - (p - q)) / p * q + ((t - (p - q)) % p - (p - q))
theorem pr_xsup {post : Int32 → Prop} {p q t : Nat} (hp : 1 ≤ p) (hp2 : p ≤ 32) (hq : q ≤ p) (ht : t ≤ 100000)
    (H : post (nI (pr_sb p q t))) : wpX_supply post () (nI p) (nI q) (nI t) := by
  refine nm_r (e' := nI (p - q)) (pk_sub hq) (pk_eq q 0 (fun z => ?_) (fun z => pk_lt (p - q) t (fun z2 => ?_) (fun z2 => ?_)))
  · have e : pr_sb p q t = 0 := if_pos (Or.inl z)
    rw [e] at H; exact H
  · have e : pr_sb p q t = (t - (p - q)) / p * q + ((t - (p - q)) % p - (p - q)) := if_neg (by omega)
    have hm : (t - (p - q)) % p < p := Nat.mod_lt _ hp
    rw [e, ← nI_add, ← pk_mul] at H
    refine nm_r (e' := nI (t - (p - q))) (pk_sub (by omega)) ⟨nI_ne0 hp (by omega), nm_r (e' := nI ((t - (p - q)) / p)) (pk_div (by omega) hp (by omega)) ⟨nI_ne0 hp (by omega), nm_r (e' := nI ((t - (p - q)) % p)) (pk_rem (by omega) hp (by omega)) (pk_le ((t - (p - q)) % p) (p - q) (fun z3 => ?_) (fun z3 => nm_r (e' := nI ((t - (p - q)) % p - (p - q))) (pk_sub (by omega)) H))⟩⟩
    rw [show (t - (p - q)) % p - (p - q) = 0 from by omega] at H
    exact H
  · have e : pr_sb p q t = 0 := if_pos (Or.inr z2)
    rw [e] at H; exact H
end PR04
end
section
section PR05
variable {hz nw ad : Int32} {po ct sp sb pe wc re ex mi le : Nat → Int32}
/-! what covering asks, as yes or no -/
def pr_fD (pe wc : Nat → Int32) (c k p q : Nat) : Nat → Bool := fun t => decide (pr_dm pe wc (nI t) (c * 8) k ≤ nI (pr_sb p q t))
def pr_fT (pe wc : Nat → Int32) (c p q j : Nat) : Nat → Bool := fun t => decide (¬ nI (pr_sb p q t) < pr_rq pe wc (nI t) (c * 8) (j + 1))
def pr_fF (pe wc : Nat → Int32) (c p q : Nat) : Nat → Bool := fun j => pr_any (pr_fT pe wc c p q j) 1 (pr_K pe (c * 8 + j))
def pr_cv (po pe wc : Nat → Int32) (Hn c k p : Nat) : Nat → Bool := fun q => if po c = 1 then pr_all (pr_fF pe wc c p q) 0 k else pr_all (pr_fD pe wc c k p q) 1 Hn
theorem pr_nz {c k : Nat} (h : ∀ i, i < k → ∃ p, 1 ≤ p ∧ p ≤ 64 ∧ pe (c * 8 + i) = nI p) : ∀ i, i < k → ¬ pe (c * 8 + i) = 0 := by
  intro i hi
  obtain ⟨p, h1, h2, e⟩ := h i hi
  rw [e]
  exact nI_ne0 h1 (by omega)
/-! EDF -/
theorem pr_xcd3 {post : Int32 → Prop} {Hn c k p q : Nat} (hH : Hn ≤ 256) (hc : c < 4) (hk : k ≤ 8) (hct : ct c = nI k) (hpe : ∀ i, i < k → ¬ pe (c * 8 + i) = 0) (hp : 1 ≤ p) (hp2 : p ≤ 32) (hq : q ≤ p) :
    ∀ d i, i + d = Hn + 1 → post (pr_b (pr_all (pr_fD pe wc c k p q) i d)) → wX_coversDeadlines_3 post (nI c) (nI p) (nI q) (nI Hn) nw ad po ct sp sb pe wc re ex mi le (d + 1) (nI i) := by
  intro d
  induction d with
  | zero =>
    intro i hi H
    exact pk_lt Hn i (fun _ => H) (fun z => absurd z (by omega))
  | succ d ih =>
    intro i hi H
    refine pk_lt Hn i (fun z => absurd z (by omega)) (fun _ => pr_xdemand hc hk hct hpe (pr_xsup hp hp2 hq (by omega) (br_c (fun z => nm_r (e' := nI (i + 1)) (nI_1 _) (ih (i + 1) (by omega) ?_)) (fun z => ?_))))
    · rw [pr_all_t (decide_eq_true z)] at H; exact H
    · rw [pr_all_f (decide_eq_false z)] at H; exact H
theorem pr_xcd {post : Int32 → Prop} {Hn c k p q : Nat} (hH : Hn ≤ 256) (hc : c < 4) (hk : k ≤ 8) (hct : ct c = nI k) (hpe : ∀ i, i < k → ¬ pe (c * 8 + i) = 0) (hp : 1 ≤ p) (hp2 : p ≤ 32) (hq : q ≤ p)
    (H : post (pr_b (pr_all (pr_fD pe wc c k p q) 1 Hn))) : wpX_coversDeadlines post (nI Hn, nw, ad, po, ct, sp, sb, pe, wc, re, ex, mi, le) (nI c) (nI p) (nI q) :=
  ⟨Hn + 1, pr_xcd3 hH hc hk hct hpe hp hp2 hq Hn 1 (by omega) H⟩
/-! fixed priority -/
theorem pr_xct16 {post : Int32 → Prop} {T c j p q : Nat} (hT : T ≤ 64) (hc : c < 4) (hj : j < 8) (hpe : ∀ i, i < j + 1 → ¬ pe (c * 8 + i) = 0) (hp : 1 ≤ p) (hp2 : p ≤ 32) (hq : q ≤ p) :
    ∀ d i, i + d = T + 1 → post (pr_b (pr_any (pr_fT pe wc c p q j) i d)) → wX_coversTask_16 post (nI c) (nI j) (nI p) (nI q) (nI T) hz nw ad po ct sp sb pe wc re ex mi le (d + 1) (nI i) := by
  intro d
  induction d with
  | zero =>
    intro i hi H
    exact pk_lt T i (fun _ => H) (fun z => absurd z (by omega))
  | succ d ih =>
    intro i hi H
    refine pk_lt T i (fun z => absurd z (by omega)) (fun _ => pr_xrequest hc hj hpe (pr_xsup hp hp2 hq (by omega) (br_c (fun z => nm_r (e' := nI (i + 1)) (nI_1 _) (ih (i + 1) (by omega) ?_)) (fun z => ?_))))
    · rw [pr_any_f (decide_eq_false (fun y => y z))] at H; exact H
    · rw [pr_any_t (decide_eq_true z)] at H; exact H
theorem pr_xct {post : Int32 → Prop} {c k j p q : Nat} (hc : c < 4) (hk : k ≤ 8) (hj : j < k) (hpe : ∀ i, i < k → ∃ p, 1 ≤ p ∧ p ≤ 64 ∧ pe (c * 8 + i) = nI p) (hp : 1 ≤ p) (hp2 : p ≤ 32) (hq : q ≤ p)
    (H : post (pr_b (pr_fF pe wc c p q j))) : wpX_coversTask post (hz, nw, ad, po, ct, sp, sb, pe, wc, re, ex, mi, le) (nI c) (nI j) (nI p) (nI q) := by
  obtain ⟨T, h1, hT, e⟩ := hpe j hj
  have hin : vp_in (nI c * 8 + nI j) 32 := by rw [pr_sl]; exact pr_i32 hc (by omega)
  have hcl : (nI c * 8 + nI j).toNatClampNeg = c * 8 + j := by rw [pr_sl]; exact nI_clamp (by omega)
  have H' : post (pr_b (pr_any (pr_fT pe wc c p q j) 1 T)) := by
    have H2 : post (pr_b (pr_any (pr_fT pe wc c p q j) 1 (pr_K pe (c * 8 + j)))) := H
    rw [pr_Ke e (by omega)] at H2; exact H2
  exact ⟨hin, nm_r (e' := nI T) (by rw [hcl]; exact e) ⟨T + 1, pr_xct16 hT hc (by omega) (fun i hi => pr_nz hpe i (by omega)) hp hp2 hq T 1 (by omega) H'⟩⟩
theorem pr_xcf11 {post : Int32 → Prop} {c k p q : Nat} (hc : c < 4) (hk : k ≤ 8) (hpe : ∀ i, i < k → ∃ p, 1 ≤ p ∧ p ≤ 64 ∧ pe (c * 8 + i) = nI p) (hp : 1 ≤ p) (hp2 : p ≤ 32) (hq : q ≤ p) :
    ∀ d i, i + d = k → post (pr_b (pr_all (pr_fF pe wc c p q) i d)) → wX_coversFixedPriority_11 post (nI c) (nI p) (nI q) (nI k) hz nw ad po ct sp sb pe wc re ex mi le (d + 1) (nI i) := by
  intro d
  induction d with
  | zero =>
    intro i hi H
    exact pk_le k i (fun _ => H) (fun z => absurd z (by omega))
  | succ d ih =>
    intro i hi H
    refine pk_le k i (fun z => absurd z (by omega)) (fun _ => pr_xct hc hk (by omega) hpe hp hp2 hq ?_)
    cases e : pr_fF pe wc c p q i with
    | false =>
      rw [pr_all_f e] at H
      exact br_t rfl H
    | true =>
      rw [pr_all_t e] at H
      exact br_f pr_10 (nm_r (e' := nI (i + 1)) (nI_1 _) (ih (i + 1) (by omega) H))
theorem pr_xcf {post : Int32 → Prop} {c k p q : Nat} (hc : c < 4) (hk : k ≤ 8) (hct : ct c = nI k) (hpe : ∀ i, i < k → ∃ p, 1 ≤ p ∧ p ≤ 64 ∧ pe (c * 8 + i) = nI p) (hp : 1 ≤ p) (hp2 : p ≤ 32) (hq : q ≤ p)
    (H : post (pr_b (pr_all (pr_fF pe wc c p q) 0 k))) : wpX_coversFixedPriority post (hz, nw, ad, po, ct, sp, sb, pe, wc, re, ex, mi, le) (nI c) (nI p) (nI q) :=
  ⟨pr_i4 hc, nm_r (e' := nI k) (by rw [pr_cl (c := c) (by omega)]; exact hct) ⟨k + 1, pr_xcf11 hc hk hpe hp hp2 hq k 0 (by omega) H⟩⟩
theorem pr_sb_le {p q t : Nat} (hq : q ≤ p) : pr_sb p q t ≤ t := by
  unfold pr_sb
  by_cases h : q = 0 ∨ t ≤ p - q
  · rw [if_pos h]; exact Nat.zero_le _
  · rw [if_neg h]
    have h1 : (t - (p - q)) / p * q ≤ (t - (p - q)) / p * p := Nat.mul_le_mul_left _ hq
    have h2 := Nat.div_add_mod' (t - (p - q)) p
    omega
theorem pr_cv0 {Hn c p q : Nat} (hH : Hn ≤ 256) (hq : q ≤ p) : pr_cv po pe wc Hn c 0 p q = true := by
  show (if po c = 1 then pr_all (pr_fF pe wc c p q) 0 0 else pr_all (pr_fD pe wc c 0 p q) 1 Hn) = true
  by_cases h : po c = 1
  · rw [if_pos h]; rfl
  · rw [if_neg h]
    have A : ∀ d i, i + d ≤ 1000 → pr_all (pr_fD pe wc c 0 p q) i d = true := by
      intro d
      induction d with
      | zero => intro i _; rfl
      | succ d ih =>
        intro i hi
        have h3 : pr_sb p q i ≤ i := pr_sb_le hq
        have h4 : pr_fD pe wc c 0 p q i = true := decide_eq_true (nI_pos' (n := pr_sb p q i) (by omega))
        rw [pr_all_t h4]
        exact ih (i + 1) (by omega)
    exact A Hn 1 (by omega)
/-! the least budget -/
theorem pr_xlb2 {post : Int32 → Prop} {Hn c k p : Nat} (hH : Hn ≤ 256) (hc : c < 4) (hk : k ≤ 8) (hpo : po c = 0 ∨ po c = 1) (hct : ct c = nI k) (hpe : ∀ i, i < k → ∃ p, 1 ≤ p ∧ p ≤ 64 ∧ pe (c * 8 + i) = nI p) (hp : 1 ≤ p) (hp2 : p ≤ 32) :
    ∀ d i, i + d = p + 1 → post (pr_ans (pr_ls (pr_cv po pe wc Hn c k p) i d)) → wX_leastBudget_2 post (nI c) (nI p) (nI Hn) nw ad po ct sp sb pe wc re ex mi le (d + 1) (nI i) := by
  have hcl : (nI c).toNatClampNeg = c := nI_clamp (by omega)
  intro d
  induction d with
  | zero =>
    intro i hi H
    exact pk_lt p i (fun _ => H) (fun z => absurd z (by omega))
  | succ d ih =>
    intro i hi H
    have W : wX_leastBudget_34 post (wX_leastBudget_2 post (nI c) (nI p) (nI Hn) nw ad po ct sp sb pe wc re ex mi le (d + 1)) (nI c) (nI p) (nI i) (pr_b (pr_cv po pe wc Hn c k p i)) (nI Hn) nw ad po ct sp sb pe wc re ex mi le := by
      cases e : pr_cv po pe wc Hn c k p i with
      | false =>
        rw [pr_ls_f e] at H
        exact br_t rfl (nm_r (e' := nI (i + 1)) (nI_1 _) (ih (i + 1) (by omega) H))
      | true =>
        rw [pr_ls_t e] at H
        exact br_f pr_10 H
    refine pk_lt p i (fun z => absurd z (by omega)) (fun _ => ⟨pr_i4 hc, ?_⟩)
    rw [hcl]
    cases hpo with
    | inl h =>
      have e : pr_cv po pe wc Hn c k p i = pr_all (pr_fD pe wc c k p i) 1 Hn := if_neg (by rw [h]; decide)
      rw [e] at W
      exact br_f (by rw [h]; decide) (pr_xcd hH hc hk hct (pr_nz hpe) hp hp2 (by omega) W)
    | inr h =>
      have e : pr_cv po pe wc Hn c k p i = pr_all (pr_fF pe wc c p i) 0 k := if_pos h
      rw [e] at W
      exact br_t h (pr_xcf hc hk hct hpe hp hp2 (by omega) W)
theorem pr_xlb {post : Int32 → Prop} {Hn c k p : Nat} (hH : Hn ≤ 256) (hc : c < 4) (hk : k ≤ 8) (hpo : po c = 0 ∨ po c = 1) (hct : ct c = nI k) (hpe : ∀ i, i < k → ∃ p, 1 ≤ p ∧ p ≤ 64 ∧ pe (c * 8 + i) = nI p) (hp : 1 ≤ p) (hp2 : p ≤ 32)
    (H : post (pr_ans (pr_ls (pr_cv po pe wc Hn c k p) 0 (p + 1)))) : wpX_leastBudget post (nI Hn, nw, ad, po, ct, sp, sb, pe, wc, re, ex, mi, le) (nI c) (nI p) :=
  ⟨p + 1 + 1, pr_xlb2 hH hc hk hpo hct hpe hp hp2 (p + 1) 0 (by omega) H⟩
end PR05
end
section
section PR06
variable {hz nw ad : Int32} {po ct sp sb pe wc re ex mi le : Nat → Int32}
/-! the arguments -/
theorem pr_xcomp {post : Int32 → Prop} {x : Int32} (h0 : ¬ (∃ c, c < 4 ∧ x = nI c) → post 0) (h1 : ∀ c, c < 4 → x = nI c → post 1) : wpX_isComponent post () x := by
  refine br_c (fun z => h0 ?_) (fun z => br_c (fun z2 => h0 ?_) (fun z2 => ?_))
  · rintro ⟨c, hc, rfl⟩; exact nI_pos (by omega) z
  · rintro ⟨c, hc, rfl⟩; exact nI_ge (b := 4) hc (by decide) z2
  · obtain ⟨j, hj, rfl⟩ := nI_of z
    have h : j < 4 := by
      have h5 : ¬ nI 4 ≤ nI j := z2
      rw [nI_leI (by omega) hj] at h5
      omega
    exact h1 j h rfl
/-! Y's test of the component -/
/-! the invariant over stores -/
theorem pr_C_pol {c0 : Nat} {x : Int32} (hx : x = 0 ∨ x = 1) (I : ∀ c, c < 4 → pr_C po ct sp sb pe c) : ∀ c, c < 4 → pr_C (upd po c0 x) ct sp sb pe c := by
  intro c hc
  obtain ⟨h1, h2⟩ := I c hc
  refine ⟨?_, h2⟩
  by_cases e : c = c0
  · subst e; rw [pk_us]; exact hx
  · rw [pk_un e]; exact h1
theorem pr_C_if {c0 p q : Nat} (hp : p ≤ 32) (hq : q ≤ p) (I : ∀ c, c < 4 → pr_C po ct sp sb pe c) : ∀ c, c < 4 → pr_C po ct (upd sp c0 (nI p)) (upd sb c0 (nI q)) pe c := by
  intro c hc
  obtain ⟨h1, h2, h3⟩ := I c hc
  refine ⟨h1, h2, ?_⟩
  by_cases e : c = c0
  · subst e; rw [pk_us, pk_us]; exact ⟨p, q, hp, hq, rfl, rfl⟩
  · rw [pk_un e, pk_un e]; exact h3
theorem pr_C_rm {c0 : Nat} (I : ∀ c, c < 4 → pr_C po ct sp sb pe c) : ∀ c, c < 4 → pr_C po ct (upd sp c0 0) (upd sb c0 0) pe c :=
  pr_C_if (p := 0) (q := 0) (by omega) (by omega) I
theorem pr_C_add {c0 k p : Nat} (h0 : c0 < 4) (hk : k < 8) (hct : ct c0 = nI k) (hp : 1 ≤ p) (hp2 : p ≤ 64) (I : ∀ c, c < 4 → pr_C po ct sp sb pe c) : ∀ c, c < 4 → pr_C po (upd ct c0 (nI (k + 1))) sp sb (upd pe (c0 * 8 + k) (nI p)) c := by
  intro c hc
  obtain ⟨h1, ⟨k1, hk1, hct1, hpe⟩, h3⟩ := I c hc
  refine ⟨h1, ?_, h3⟩
  by_cases e : c = c0
  · subst e
    rw [pk_us]
    have ek : k1 = k := by
      have := (nI_eq (by omega) (by omega)).mp (hct1.symm.trans hct)
      exact this
    subst ek
    refine ⟨k1 + 1, by omega, rfl, fun i hi => ?_⟩
    by_cases e2 : i = k1
    · subst e2; exact ⟨p, hp, hp2, pk_us⟩
    · rw [pk_un (by omega)]; exact hpe i (by omega)
  · rw [pk_un e]
    refine ⟨k1, hk1, hct1, fun i hi => ?_⟩
    rw [pk_un (by omega)]; exact hpe i hi
theorem pr_C_sub {c0 k : Nat} (h0 : c0 < 4) (hct : ct c0 = nI (k + 1)) (hk : k < 8) (I : ∀ c, c < 4 → pr_C po ct sp sb pe c) : ∀ c, c < 4 → pr_C po (upd ct c0 (nI k)) sp sb pe c := by
  intro c hc
  obtain ⟨h1, ⟨k1, hk1, hct1, hpe⟩, h3⟩ := I c hc
  refine ⟨h1, ?_, h3⟩
  by_cases e : c = c0
  · subst e
    rw [pk_us]
    have ek : k1 = k + 1 := (nI_eq (by omega) (by omega)).mp (hct1.symm.trans hct)
    exact ⟨k, by omega, rfl, fun i hi => hpe i (by omega)⟩
  · rw [pk_un e]; exact ⟨k1, hk1, hct1, hpe⟩
theorem pr_xrmif {post : St2 → Prop} {c : Nat} (hc : c < 4) (H : post (hz, nw, ad, po, ct, upd sp c 0, upd sb c 0, pe, wc, re, ex, mi, le)) : wpX_removeInterface post (hz, nw, ad, po, ct, sp, sb, pe, wc, re, ex, mi, le) (nI c) := by
  have hcl : (nI c).toNatClampNeg = c := nI_clamp (by omega)
  exact ⟨pr_i4 hc, nm_r (by rw [hcl]) ⟨pr_i4 hc, nm_r (by rw [hcl]) H⟩⟩
end PR06
end
section
section PR07
variable {hz nw ad : Int32} {po ct sp sb pe wc re ex mi le : Nat → Int32}
theorem pr_inv0 {H : Nat} (h1 : 64 ≤ H) (h2 : H ≤ 256) (ha : ad = 0 ∨ ad = 1) (I : ∀ c, c < 4 → pr_C po ct sp sb pe c) : pr_Inv (nI H) 0 ad po ct sp sb pe :=
  ⟨⟨H, 0, rfl, rfl, h1, h2, Nat.zero_le _⟩, ha, I⟩
theorem pr_C0 : ∀ c, c < 4 → pr_C (fun _ => 0) (fun _ => 0) (fun _ => 0) (fun _ => 0) (fun _ => 0) c := by
  intro c hc
  exact ⟨Or.inl rfl, ⟨0, by omega, rfl, fun i hi => absurd hi (by omega)⟩, ⟨0, 0, by omega, by omega, rfl, rfl⟩⟩
/-! Y's component test, passed -/
/-! setPolicy -/
theorem pr_xsp18 {post : Int32 → St2 → Prop} {c : Nat} {x : Int32} (hc : c < 4) (hx : x = 0 ∨ x = 1) (I : ∀ c, c < 4 → pr_C po ct sp sb pe c)
    (H : post 1 (hz, 0, 0, upd po c x, ct, upd sp c 0, upd sb c 0, pe, wc, pr_rsR wc ct re 4, pr_rsR (fun _ => 0) ct ex 4, pr_fill (fun _ => 0) mi 0 4, pr_fill (pr_rsL (upd sp c 0) (upd sb c 0)) le 0 4)) :
    wX_setPolicy_18 post (nI c) x hz nw ad po ct sp sb pe wc re ex mi le := by
  have hcl : (nI c).toNatClampNeg = c := nI_clamp (by omega)
  refine ⟨pr_i4 hc, nm_r (e' := upd po c x) (by rw [hcl]) ?_⟩
  refine pr_xrmif hc ?_
  exact pr_xinval (pr_C_rm (pr_C_pol hx I)) H
/-! addTask -/
/-! removeLastTask -/
/-! computeInterface -/
theorem pr_xper {post : Int32 → Prop} {x : Int32} (h0 : ¬ (∃ p, 1 ≤ p ∧ p ≤ 32 ∧ x = nI p) → post 0) (h1 : ∀ p, 1 ≤ p → p ≤ 32 → x = nI p → post 1) : wpX_isInterfacePeriod post () x := by
  refine br_c (fun z => h0 ?_) (fun z => br_c (fun z2 => h0 ?_) (fun z2 => ?_))
  · rintro ⟨p, hp, hp2, rfl⟩; exact nI_nlt (b := 1) hp (by omega) z
  · rintro ⟨p, hp, hp2, rfl⟩; exact nI_nlt (a := 32) hp2 (by omega) z2
  · have n0 : ¬ x < 0 := fun y => z (Int32.lt_trans y (by decide))
    obtain ⟨p, hp, rfl⟩ := nI_of n0
    have hp1 : 1 ≤ p := by
      have h5 : ¬ nI p < nI 1 := z
      rw [nI_ltI hp (by omega)] at h5
      omega
    have hp2 : p ≤ 32 := by
      have h5 : ¬ nI 32 < nI p := z2
      rw [nI_ltI (by omega) hp] at h5
      omega
    exact h1 p hp1 hp2 rfl
theorem pr_m1n : ¬ (0 : Int32) ≤ -1 := by decide
theorem pr_ansne {q : Nat} (hq : q < 2 ^ 31) : ¬ nI q = -2 := by
  intro e
  have h := nI_pos (n := q) hq
  rw [e] at h
  exact h (by decide)
end PR07
end
section
section PR08
/-! the sum of the bandwidths, two ways -/
def pr_pd (P : Nat → Nat) : Nat → Nat
  | 0 => 1
  | c + 1 => if P c = 0 then pr_pd P c else pr_pd P c * P c
def pr_us (P Q : Nat → Nat) : Nat → Nat
  | 0 => 0
  | c + 1 => if P c = 0 then pr_us P Q c else pr_us P Q c * P c + Q c * pr_pd P c
def pr_sm (P Q : Nat → Nat) (W : Nat) : Nat → Nat
  | 0 => 0
  | c + 1 => if P c = 0 then pr_sm P Q W c else pr_sm P Q W c + Q c * (W / P c)
theorem pr_pd0 {P : Nat → Nat} {c : Nat} (h : P c = 0) : pr_pd P (c + 1) = pr_pd P c := if_pos h
theorem pr_pd1 {P : Nat → Nat} {c : Nat} (h : ¬ P c = 0) : pr_pd P (c + 1) = pr_pd P c * P c := if_neg h
theorem pr_us0 {P Q : Nat → Nat} {c : Nat} (h : P c = 0) : pr_us P Q (c + 1) = pr_us P Q c := if_pos h
theorem pr_us1 {P Q : Nat → Nat} {c : Nat} (h : ¬ P c = 0) : pr_us P Q (c + 1) = pr_us P Q c * P c + Q c * pr_pd P c := if_neg h
theorem pr_sm0 {P Q : Nat → Nat} {W c : Nat} (h : P c = 0) : pr_sm P Q W (c + 1) = pr_sm P Q W c := if_pos h
theorem pr_sm1 {P Q : Nat → Nat} {W c : Nat} (h : ¬ P c = 0) : pr_sm P Q W (c + 1) = pr_sm P Q W c + Q c * (W / P c) := if_neg h
theorem pr_pdv {P : Nat → Nat} : ∀ n i, i < n → ¬ P i = 0 → P i ∣ pr_pd P n := by
  intro n
  induction n with
  | zero => intro i hi; exact absurd hi (by omega)
  | succ n ih =>
    intro i hi h
    by_cases z : P n = 0
    · rw [pr_pd0 z]
      by_cases e : i = n
      · subst e; exact absurd z h
      · exact ih i (by omega) h
    · rw [pr_pd1 z]
      by_cases e : i = n
      · subst e; exact Nat.dvd_mul_left _ _
      · exact Nat.dvd_trans (ih i (by omega) h) (Nat.dvd_mul_right _ _)
theorem pr_sms {P Q : Nat → Nat} {W k : Nat} : ∀ n, (∀ i, i < n → ¬ P i = 0 → P i ∣ W) → pr_sm P Q (W * k) n = pr_sm P Q W n * k := by
  intro n
  induction n with
  | zero => intro _; exact (Nat.zero_mul k).symm
  | succ n ih =>
    intro h
    have i1 := ih (fun i hi => h i (by omega))
    by_cases z : P n = 0
    · rw [pr_sm0 z, pr_sm0 z]; exact i1
    · obtain ⟨m, hm⟩ := h n (by omega) z
      have hpos : 0 < P n := by omega
      have d1 : W / P n = m := by rw [hm]; exact Nat.mul_div_cancel_left m hpos
      have d2 : W * k / P n = m * k := by rw [hm, Nat.mul_assoc]; exact Nat.mul_div_cancel_left _ hpos
      rw [pr_sm1 z, pr_sm1 z, i1, d1, d2, Nat.add_mul, Nat.mul_assoc]
theorem pr_two {P Q : Nat → Nat} : ∀ n, pr_sm P Q (pr_pd P n) n = pr_us P Q n := by
  intro n
  induction n with
  | zero => rfl
  | succ n ih =>
    by_cases z : P n = 0
    · rw [pr_pd0 z, pr_sm0 z, pr_us0 z]; exact ih
    · rw [pr_pd1 z, pr_sm1 z, pr_us1 z, pr_sms n (pr_pdv n), ih, Nat.mul_div_cancel _ (by omega)]
theorem pr_pdb {P : Nat → Nat} (hP : ∀ c, c < 4 → P c ≤ 32) : ∀ n, n ≤ 4 → pr_pd P n ≤ 32 ^ n := by
  intro n
  induction n with
  | zero => intro _; exact Nat.le_refl _
  | succ n ih =>
    intro h
    have i1 := ih (by omega)
    rw [Nat.pow_succ]
    by_cases z : P n = 0
    · rw [pr_pd0 z]; omega
    · rw [pr_pd1 z]; exact Nat.mul_le_mul i1 (hP n (by omega))
theorem pr_pdB {P : Nat → Nat} (hP : ∀ c, c < 4 → P c ≤ 32) {n : Nat} (h : n ≤ 4) : pr_pd P n ≤ 1048576 :=
  Nat.le_trans (pr_pdb hP n h) (Nat.le_trans (Nat.pow_le_pow_right (by decide) h) (by decide))
theorem pr_smb {P Q : Nat → Nat} {W : Nat} (hQ : ∀ c, c < 4 → Q c ≤ 32) : ∀ n, n ≤ 4 → pr_sm P Q W n ≤ n * (32 * W) := by
  intro n
  induction n with
  | zero => intro _; exact Nat.zero_le _
  | succ n ih =>
    intro h
    have i1 := ih (by omega)
    rw [Nat.add_mul, Nat.one_mul]
    by_cases z : P n = 0
    · rw [pr_sm0 z]; omega
    · rw [pr_sm1 z]
      have i2 : Q n * (W / P n) ≤ 32 * W := Nat.mul_le_mul (hQ n (by omega)) (Nat.div_le_self _ _)
      omega
theorem pr_usb {P Q : Nat → Nat} (hP : ∀ c, c < 4 → P c ≤ 32) (hQ : ∀ c, c < 4 → Q c ≤ 32) {n : Nat} (h : n ≤ 4) : pr_us P Q n ≤ 134217728 := by
  have a := pr_smb (P := P) (W := pr_pd P n) hQ n h
  rw [pr_two] at a
  have b := pr_pdB hP h
  have d : n * (32 * pr_pd P n) ≤ 4 * (32 * 1048576) := Nat.mul_le_mul h (Nat.mul_le_mul (Nat.le_refl _) b)
  omega
variable {hz nw ad : Int32} {po ct sp sb pe wc re ex mi le : Nat → Int32}
/-! X: every task is served -/
def pr_fS (ct sp : Nat → Int32) : Nat → Bool := fun c => decide (ct c ≤ 0) || !decide (sp c = 0)
theorem pr_xserved2 {post : Int32 → Prop} :
    ∀ d c, c + d = 4 → post (pr_b (pr_all (pr_fS ct sp) c d)) → wX_everyTaskIsServed_2 post hz nw ad po ct sp sb pe wc re ex mi le (d + 1) (nI c) := by
  intro d
  induction d with
  | zero =>
    intro c hc H
    exact pk_le 4 c (fun _ => H) (fun z => absurd z (by omega))
  | succ d ih =>
    intro c hc H
    have hc4 : c < 4 := by omega
    refine pk_le 4 c (fun z => absurd z (by omega)) (fun _ => ⟨pr_i4 hc4, ?_⟩)
    rw [pr_cl (c := c) (by omega)]
    refine br_c (fun z => nm_r (e' := nI (c + 1)) (nI_1 _) (ih (c + 1) (by omega) ?_)) (fun z => pr_xhas hc4 (fun y => br_t rfl ?_) (fun y => br_f pr_10 (nm_r (e' := nI (c + 1)) (nI_1 _) (ih (c + 1) (by omega) ?_))))
    · have e : pr_fS ct sp c = true := by
        show (decide (ct c ≤ 0) || !decide (sp c = 0)) = true
        rw [decide_eq_true z]; rfl
      rw [pr_all_t e] at H; exact H
    · have e : pr_fS ct sp c = false := by
        show (decide (ct c ≤ 0) || !decide (sp c = 0)) = false
        rw [decide_eq_false z, decide_eq_true y]; rfl
      rw [pr_all_f e] at H; exact H
    · have e : pr_fS ct sp c = true := by
        show (decide (ct c ≤ 0) || !decide (sp c = 0)) = true
        rw [decide_eq_false z, decide_eq_false y]; rfl
      rw [pr_all_t e] at H; exact H
theorem pr_xserved {post : Int32 → Prop} (H : post (pr_b (pr_all (pr_fS ct sp) 0 4))) : wpX_everyTaskIsServed post (hz, nw, ad, po, ct, sp, sb, pe, wc, re, ex, mi, le) :=
  ⟨5, pr_xserved2 4 0 (by omega) H⟩
/-! X: the bandwidth fits -/
theorem pr_xbw6 {post : Int32 → Prop} {P Q : Nat → Nat} (hP : ∀ c, c < 4 → P c ≤ 32) (hQ : ∀ c, c < 4 → Q c ≤ 32) (hsp : ∀ c, c < 4 → sp c = nI (P c)) (hsb : ∀ c, c < 4 → sb c = nI (Q c))
    (H : post (pr_b (decide (pr_us P Q 4 ≤ pr_pd P 4)))) :
    ∀ d c, c + d = 4 → wX_bandwidthFits_6 post hz nw ad po ct sp sb pe wc re ex mi le (d + 1) (nI (pr_us P Q c)) (nI (pr_pd P c)) (nI c) := by
  intro d
  induction d with
  | zero =>
    intro c hc
    have e : c = 4 := by omega
    subst e
    have b1 := pr_usb hP hQ (Nat.le_refl 4)
    have b2 := pr_pdB hP (Nat.le_refl 4)
    refine pk_le 4 4 (fun _ => pk_lt (pr_pd P 4) (pr_us P Q 4) (fun z => ?_) (fun z => ?_)) (fun z => absurd z (by omega))
    · rw [decide_eq_false (by omega)] at H; exact H
    · rw [decide_eq_true z] at H; exact H
  | succ d ih =>
    intro c hc
    have hc4 : c < 4 := by omega
    have hcl : (nI c).toNatClampNeg = c := nI_clamp (by omega)
    have W := ih (c + 1) (by omega)
    refine pk_le 4 c (fun z => absurd z (by omega)) (fun _ => pr_xhas hc4 (fun y => br_t rfl (nm_r (e' := nI (c + 1)) (nI_1 _) ?_)) (fun y => br_f pr_10 ⟨pr_i4 hc4, pr_i4 hc4, nm_r (e' := nI (pr_us P Q (c + 1))) ?_ ⟨pr_i4 hc4, nm_r (e' := nI (pr_pd P (c + 1))) ?_ (nm_r (e' := nI (c + 1)) (nI_1 _) W)⟩⟩))
    · have z : P c = 0 := by
        rw [hsp c hc4] at y
        exact (nI_eq (b := 0) (by have := hP c hc4; omega) (by omega)).mp y
      rw [pr_us0 z, pr_pd0 z] at W
      exact W
    · have z : ¬ P c = 0 := by
        intro z; apply y; rw [hsp c hc4, z]; rfl
      rw [hcl, hsp c hc4, hsb c hc4, pk_mul, pk_mul, nI_add, pr_us1 z]
    · have z : ¬ P c = 0 := by
        intro z; apply y; rw [hsp c hc4, z]; rfl
      rw [hcl, hsp c hc4, pk_mul, pr_pd1 z]
theorem pr_xbw {post : Int32 → Prop} {P Q : Nat → Nat} (hP : ∀ c, c < 4 → P c ≤ 32) (hQ : ∀ c, c < 4 → Q c ≤ 32) (hsp : ∀ c, c < 4 → sp c = nI (P c)) (hsb : ∀ c, c < 4 → sb c = nI (Q c))
    (H : post (pr_b (decide (pr_us P Q 4 ≤ pr_pd P 4)))) : wpX_bandwidthFits post (hz, nw, ad, po, ct, sp, sb, pe, wc, re, ex, mi, le) :=
  ⟨5, pr_xbw6 hP hQ hsp hsb H 4 0 (by omega)⟩
/-! X: letting in -/
theorem pr_xad20 {post : Int32 → St2 → Prop} (b : Bool) (I : ∀ c, c < 4 → pr_C po ct sp sb pe c)
    (H : post (pr_b b) (hz, 0, pr_b b, po, ct, sp, sb, pe, wc, pr_rsR wc ct re 4, pr_rsR (fun _ => 0) ct ex 4, pr_fill (fun _ => 0) mi 0 4, pr_fill (pr_rsL sp sb) le 0 4)) :
    wX_admit_20 post (pr_b b) hz nw ad po ct sp sb pe wc re ex mi le := by
  refine ⟨pr_bn b, pr_bf b, ?_⟩
  refine pr_xreset I ?_
  exact ⟨pr_bn b, H⟩
theorem pr_xadmit {post : Int32 → St2 → Prop} {P Q : Nat → Nat} (hP : ∀ c, c < 4 → P c ≤ 32) (hQ : ∀ c, c < 4 → Q c ≤ 32) (hsp : ∀ c, c < 4 → sp c = nI (P c)) (hsb : ∀ c, c < 4 → sb c = nI (Q c)) (I : ∀ c, c < 4 → pr_C po ct sp sb pe c)
    (H : ∀ b : Bool, b = (pr_all (pr_fS ct sp) 0 4 && decide (pr_us P Q 4 ≤ pr_pd P 4)) → post (pr_b b) (hz, 0, pr_b b, po, ct, sp, sb, pe, wc, pr_rsR wc ct re 4, pr_rsR (fun _ => 0) ct ex 4, pr_fill (fun _ => 0) mi 0 4, pr_fill (pr_rsL sp sb) le 0 4)) :
    wpX_admit post (hz, nw, ad, po, ct, sp, sb, pe, wc, re, ex, mi, le) := by
  unfold wpX_admit
  refine pr_xserved ?_
  cases e : pr_all (pr_fS ct sp) 0 4 with
  | false =>
    rw [e] at H
    exact br_t rfl (pr_xad20 false I (H false rfl))
  | true =>
    refine br_f pr_10 (pr_xbw hP hQ hsp hsb ?_)
    cases e2 : decide (pr_us P Q 4 ≤ pr_pd P 4) with
    | false =>
      rw [e, e2] at H
      exact br_t rfl (pr_xad20 false I (H false rfl))
    | true =>
      rw [e, e2] at H
      exact br_f pr_10 (pr_xad20 true I (H true rfl))
/-! Y: letting in -/
end PR08
end
section
section PR09
variable {hz nw ad : Int32} {po ct sp sb pe wc re ex mi le : Nat → Int32}
/-! the component chosen -/
def pr_dl (nw p : Int32) : Int32 := (nw / p + 1) * p
def pr_ch (nw : Int32) (sp le : Nat → Int32) : Nat → Int32 × Int32
  | 0 => (-1, 0)
  | c + 1 => if sp c = 0 then pr_ch nw sp le c else if le c ≤ 0 then pr_ch nw sp le c else if (pr_ch nw sp le c).1 = -1 then (nI c, pr_dl nw (sp c)) else if (pr_ch nw sp le c).2 ≤ pr_dl nw (sp c) then pr_ch nw sp le c else (nI c, pr_dl nw (sp c))
theorem pr_ch_in : ∀ n, (pr_ch nw sp le n).1 = -1 ∨ ∃ j, j < n ∧ (pr_ch nw sp le n).1 = nI j := by
  intro n
  induction n with
  | zero => exact Or.inl rfl
  | succ n ih =>
    have ih' : (pr_ch nw sp le n).1 = -1 ∨ ∃ j, j < n + 1 ∧ (pr_ch nw sp le n).1 = nI j := by
      cases ih with
      | inl h => exact Or.inl h
      | inr h => obtain ⟨j, hj, e⟩ := h; exact Or.inr ⟨j, by omega, e⟩
    have me : (nI n, pr_dl nw (sp n)).1 = -1 ∨ ∃ j, j < n + 1 ∧ (nI n, pr_dl nw (sp n)).1 = nI j := Or.inr ⟨n, by omega, rfl⟩
    unfold pr_ch
    by_cases h1 : sp n = 0
    · rw [if_pos h1]; exact ih'
    · rw [if_neg h1]
      by_cases h2 : le n ≤ 0
      · rw [if_pos h2]; exact ih'
      · rw [if_neg h2]
        by_cases h3 : (pr_ch nw sp le n).1 = -1
        · rw [if_pos h3]; exact me
        · rw [if_neg h3]
          by_cases h4 : (pr_ch nw sp le n).2 ≤ pr_dl nw (sp n)
          · rw [if_pos h4]; exact ih'
          · rw [if_neg h4]; exact me
theorem pr_xch6 {post : Int32 → Prop} (H : post (pr_ch nw sp le 4).1) :
    ∀ d c, c + d = 4 → wX_chooseComponent_6 post hz nw ad po ct sp sb pe wc re ex mi le (d + 1) (pr_ch nw sp le c).1 (pr_ch nw sp le c).2 (nI c) := by
  intro d
  induction d with
  | zero =>
    intro c hc
    have e : c = 4 := by omega
    subst e
    exact pk_le 4 4 (fun _ => H) (fun z => absurd z (by omega))
  | succ d ih =>
    intro c hc
    have hc4 : c < 4 := by omega
    have hcl : (nI c).toNatClampNeg = c := nI_clamp (by omega)
    have W := ih (c + 1) (by omega)
    unfold pr_ch at W
    refine pk_le 4 c (fun z => absurd z (by omega)) (fun _ => pr_xhas hc4 (fun h1 => br_t rfl (nm_r (e' := nI (c + 1)) (nI_1 _) ?_)) (fun h1 => br_f pr_10 ⟨pr_i4 hc4, ?_⟩))
    · rw [if_pos h1] at W; exact W
    · rw [if_neg h1] at W
      rw [hcl]
      refine br_c (fun h2 => nm_r (e' := nI (c + 1)) (nI_1 _) ?_) (fun h2 => ⟨pr_i4 hc4, nm_r (e' := sp c) rfl ⟨h1, nm_r (e' := pr_dl nw (sp c)) rfl (br_c (fun h3 => nm_r (e' := nI (c + 1)) (nI_1 _) ?_) (fun h3 => br_c (fun h4 => nm_r (e' := nI (c + 1)) (nI_1 _) ?_) (fun h4 => nm_r (e' := nI (c + 1)) (nI_1 _) ?_)))⟩⟩)
      · rw [if_pos h2] at W; exact W
      · rw [if_neg h2, if_pos h3] at W; exact W
      · rw [if_neg h2, if_neg h3, if_pos h4] at W; exact W
      · rw [if_neg h2, if_neg h3, if_neg h4] at W; exact W
theorem pr_xch {post : Int32 → Prop} (H : post (pr_ch nw sp le 4).1) : wpX_chooseComponent post (hz, nw, ad, po, ct, sp, sb, pe, wc, re, ex, mi, le) :=
  ⟨5, pr_xch6 H 4 0 (by omega)⟩
theorem pr_chneg {n : Nat} (hn : n < 2 ^ 31) : (pr_ch nw sp le n).1 = -1 ↔ (pr_ch nw sp le n).1 < 0 := by
  cases pr_ch_in (nw := nw) (sp := sp) (le := le) n with
  | inl h => rw [h]; exact ⟨fun _ => by decide, fun _ => rfl⟩
  | inr h =>
    obtain ⟨j, hj, e⟩ := h
    rw [e]
    refine ⟨fun z => ?_, fun z => absurd z (nI_pos (by omega))⟩
    have h5 := nI_pos (n := j) (by omega)
    rw [z] at h5
    exact absurd (by decide) h5
/-! the task served: (which of the first i, its deadline) -/
def pr_sel (edf : Bool) (nw : Int32) (pe re : Nat → Int32) (b : Nat) : Nat → Option Nat × Int32
  | 0 => (none, 0)
  | i + 1 => if re (b + i) ≤ 0 then pr_sel edf nw pe re b i else match (pr_sel edf nw pe re b i).1 with
    | none => (some i, pr_dl nw (pe (b + i)))
    | some _ => if edf = true ∧ ¬ (pr_sel edf nw pe re b i).2 ≤ pr_dl nw (pe (b + i)) then (some i, pr_dl nw (pe (b + i))) else pr_sel edf nw pe re b i
def pr_o (b : Nat) (o : Option Nat) : Int32 := match o with
  | none => -1
  | some j => nI (b + j)
section PR09S
variable {edf : Bool} {b i : Nat}
theorem pr_sel0 (h : re (b + i) ≤ 0) : pr_sel edf nw pe re b (i + 1) = pr_sel edf nw pe re b i := if_pos h
theorem pr_sel1 (h : ¬ re (b + i) ≤ 0) (h2 : (pr_sel edf nw pe re b i).1 = none) : pr_sel edf nw pe re b (i + 1) = (some i, pr_dl nw (pe (b + i))) := by
  have e : pr_sel edf nw pe re b (i + 1) = match (pr_sel edf nw pe re b i).1 with
    | none => (some i, pr_dl nw (pe (b + i)))
    | some _ => if edf = true ∧ ¬ (pr_sel edf nw pe re b i).2 ≤ pr_dl nw (pe (b + i)) then (some i, pr_dl nw (pe (b + i))) else pr_sel edf nw pe re b i := if_neg h
  rw [e, h2]
theorem pr_sel2 {j : Nat} (h : ¬ re (b + i) ≤ 0) (h2 : (pr_sel edf nw pe re b i).1 = some j) : pr_sel edf nw pe re b (i + 1) = if edf = true ∧ ¬ (pr_sel edf nw pe re b i).2 ≤ pr_dl nw (pe (b + i)) then (some i, pr_dl nw (pe (b + i))) else pr_sel edf nw pe re b i := by
  have e : pr_sel edf nw pe re b (i + 1) = match (pr_sel edf nw pe re b i).1 with
    | none => (some i, pr_dl nw (pe (b + i)))
    | some _ => if edf = true ∧ ¬ (pr_sel edf nw pe re b i).2 ≤ pr_dl nw (pe (b + i)) then (some i, pr_dl nw (pe (b + i))) else pr_sel edf nw pe re b i := if_neg h
  rw [e, h2]
end PR09S
theorem pr_sel_in {edf : Bool} {b : Nat} : ∀ n j, (pr_sel edf nw pe re b n).1 = some j → j < n := by
  intro n
  induction n with
  | zero => intro j h; cases h
  | succ n ih =>
    intro j h
    by_cases z : re (b + n) ≤ 0
    · rw [pr_sel0 z] at h
      have := ih j h
      omega
    · cases e : (pr_sel edf nw pe re b n).1 with
      | none =>
        rw [pr_sel1 z e] at h
        cases h
        omega
      | some m =>
        rw [pr_sel2 z e] at h
        by_cases y : edf = true ∧ ¬ (pr_sel edf nw pe re b n).2 ≤ pr_dl nw (pe (b + n))
        · rw [if_pos y] at h
          cases h
          omega
        · rw [if_neg y] at h
          have := ih j h
          omega
theorem pr_on {b j : Nat} (h : b + j < 2 ^ 31) : ¬ pr_o b (some j) = -1 := by
  intro e
  have h5 := nI_pos (n := b + j) h
  have e2 : nI (b + j) = -1 := e
  rw [e2] at h5
  exact h5 (by decide)
theorem pr_fpkeep {b j : Nat} : ∀ m i, (pr_sel false nw pe re b i).1 = some j → (pr_sel false nw pe re b (i + m)).1 = some j := by
  intro m
  induction m with
  | zero => intro i h; exact h
  | succ m ih =>
    intro i h
    have h1 := ih i h
    show (pr_sel false nw pe re b (i + m + 1)).1 = some j
    by_cases z : re (b + (i + m)) ≤ 0
    · rw [pr_sel0 z]; exact h1
    · rw [pr_sel2 z h1, if_neg (fun y => absurd y.1 (by decide))]; exact h1
theorem pr_xfp17 {post : Int32 → Prop} {c k : Nat} (hc : c < 4) (hk : k ≤ 8) (H : post (pr_o (c * 8) (pr_sel false nw pe re (c * 8) k).1)) :
    ∀ d i, i + d = k → (pr_sel false nw pe re (c * 8) i).1 = none → wX_firstPendingSlot_17 post (nI (c * 8 + k)) hz nw ad po ct sp sb pe wc re ex mi le (d + 1) (nI (c * 8 + i)) := by
  intro d
  induction d with
  | zero =>
    intro i hi h
    have e : i = k := by omega
    subst e
    rw [h] at H
    exact pk_le (c * 8 + i) (c * 8 + i) (fun _ => H) (fun z => absurd z (by omega))
  | succ d ih =>
    intro i hi h
    have hin : vp_in (nI (c * 8 + i)) 32 := pr_i32 hc (by omega)
    have hcl : (nI (c * 8 + i)).toNatClampNeg = c * 8 + i := nI_clamp (by omega)
    refine pk_le (c * 8 + k) (c * 8 + i) (fun z => absurd z (by omega)) (fun _ => ⟨hin, ?_⟩)
    rw [hcl]
    refine br_c (fun z => nm_r (e' := nI (c * 8 + (i + 1))) (nI_1 _) (ih (i + 1) (by omega) (by rw [pr_sel0 z]; exact h))) (fun z => ?_)
    have e1 : (pr_sel false nw pe re (c * 8) (i + 1)).1 = some i := by rw [pr_sel1 z h]
    have e2 := pr_fpkeep d (i + 1) e1
    rw [show i + 1 + d = k from by omega] at e2
    rw [e2] at H
    exact H
theorem pr_xfp {post : Int32 → Prop} {c k : Nat} (hc : c < 4) (hk : k ≤ 8) (hct : ct c = nI k) (H : post (pr_o (c * 8) (pr_sel false nw pe re (c * 8) k).1)) :
    wpX_firstPendingSlot post (hz, nw, ad, po, ct, sp, sb, pe, wc, re, ex, mi, le) (nI c) := by
  have hcl : (nI c).toNatClampNeg = c := nI_clamp (by omega)
  refine nm_r (e' := nI (c * 8)) (pr_m8 c) ⟨pr_i4 hc, nm_r (e' := nI (c * 8 + k)) ?_ ⟨k + 1, pr_xfp17 hc hk H k 0 (by omega) rfl⟩⟩
  rw [hcl, hct]; exact nI_add _ _
theorem pr_xmu25 {post : Int32 → Prop} {c k : Nat} (hc : c < 4) (hk : k ≤ 8) (hp : ∀ i, i < k → ¬ pe (c * 8 + i) = 0) (H : post (pr_o (c * 8) (pr_sel true nw pe re (c * 8) k).1)) :
    ∀ d i, i + d = k → wX_mostUrgentSlot_25 post (nI (c * 8 + k)) hz nw ad po ct sp sb pe wc re ex mi le (d + 1) (pr_o (c * 8) (pr_sel true nw pe re (c * 8) i).1) (pr_sel true nw pe re (c * 8) i).2 (nI (c * 8 + i)) := by
  intro d
  induction d with
  | zero =>
    intro i hi
    have e : i = k := by omega
    subst e
    exact pk_le (c * 8 + i) (c * 8 + i) (fun _ => H) (fun z => absurd z (by omega))
  | succ d ih =>
    intro i hi
    have hin : vp_in (nI (c * 8 + i)) 32 := pr_i32 hc (by omega)
    have hcl : (nI (c * 8 + i)).toNatClampNeg = c * 8 + i := nI_clamp (by omega)
    have W := ih (i + 1) (by omega)
    refine pk_le (c * 8 + k) (c * 8 + i) (fun z => absurd z (by omega)) (fun _ => ⟨hin, ?_⟩)
    rw [hcl]
    refine br_c (fun z => nm_r (e' := nI (c * 8 + (i + 1))) (nI_1 _) ?_) (fun z => ⟨hin, hp i (by omega), hin, nm_r (e' := pr_dl nw (pe (c * 8 + i))) rfl ?_⟩)
    · rw [pr_sel0 z] at W; exact W
    · cases e : (pr_sel true nw pe re (c * 8) i).1 with
      | none =>
        rw [pr_sel1 z e] at W
        exact br_t rfl (nm_r (e' := nI (c * 8 + (i + 1))) (nI_1 _) W)
      | some j =>
        have hj := pr_sel_in _ _ e
        rw [pr_sel2 z e] at W
        refine br_f (pr_on (by omega)) (br_c (fun y => nm_r (e' := nI (c * 8 + (i + 1))) (nI_1 _) ?_) (fun y => nm_r (e' := nI (c * 8 + (i + 1))) (nI_1 _) ?_))
        · rw [if_neg (fun x => x.2 y), e] at W; exact W
        · rw [if_pos ⟨rfl, y⟩] at W; exact W
theorem pr_xmu {post : Int32 → Prop} {c k : Nat} (hc : c < 4) (hk : k ≤ 8) (hct : ct c = nI k) (hp : ∀ i, i < k → ¬ pe (c * 8 + i) = 0) (H : post (pr_o (c * 8) (pr_sel true nw pe re (c * 8) k).1)) :
    wpX_mostUrgentSlot post (hz, nw, ad, po, ct, sp, sb, pe, wc, re, ex, mi, le) (nI c) := by
  have hcl : (nI c).toNatClampNeg = c := nI_clamp (by omega)
  refine nm_r (e' := nI (c * 8)) (pr_m8 c) ⟨pr_i4 hc, nm_r (e' := nI (c * 8 + k)) ?_ ⟨k + 1, pr_xmu25 hc hk hp H k 0 (by omega)⟩⟩
  rw [hcl, hct]; exact nI_add _ _
/-! what serving does -/
def pr_svR (b : Nat) (re : Nat → Int32) (o : Option Nat) : Nat → Int32 := match o with
  | none => re
  | some j => upd re (b + j) (re (b + j) - 1)
def pr_svE (b : Nat) (ex : Nat → Int32) (o : Option Nat) : Nat → Int32 := match o with
  | none => ex
  | some j => upd ex (b + j) (ex (b + j) + 1)
theorem pr_xsv23 {post : St2 → Prop} {c : Nat} (hc : c < 4) (o : Option Nat) (ho : ∀ j, o = some j → j < 8) (H : post (hz, nw, ad, po, ct, sp, sb, pe, wc, pr_svR (c * 8) re o, pr_svE (c * 8) ex o, mi, le)) :
    wX_serveTask_23 post (pr_o (c * 8) o) hz nw ad po ct sp sb pe wc re ex mi le := by
  cases o with
  | none => exact br_t rfl H
  | some j =>
    have hj := ho j rfl
    have hin : vp_in (nI (c * 8 + j)) 32 := pr_i32 hc hj
    have hcl : (nI (c * 8 + j)).toNatClampNeg = c * 8 + j := nI_clamp (by omega)
    exact br_f (pr_on (by omega)) ⟨hin, hin, nm_r (e' := upd re (c * 8 + j) (re (c * 8 + j) - 1)) (by show upd re (nI (c * 8 + j)).toNatClampNeg (re (nI (c * 8 + j)).toNatClampNeg - 1) = _; rw [hcl]) ⟨hin, hin, nm_r (e' := upd ex (c * 8 + j) (ex (c * 8 + j) + 1)) (by show upd ex (nI (c * 8 + j)).toNatClampNeg (ex (nI (c * 8 + j)).toNatClampNeg + 1) = _; rw [hcl]) H⟩⟩
theorem pr_xserve {post : St2 → Prop} {c k : Nat} (hc : c < 4) (hk : k ≤ 8) (hpo : po c = 0 ∨ po c = 1) (hct : ct c = nI k) (hp : ∀ i, i < k → ¬ pe (c * 8 + i) = 0)
    (H : post (hz, nw, ad, po, ct, sp, sb, pe, wc, pr_svR (c * 8) re (pr_sel (decide (po c = 0)) nw pe re (c * 8) k).1, pr_svE (c * 8) ex (pr_sel (decide (po c = 0)) nw pe re (c * 8) k).1, mi, le)) :
    wpX_serveTask post (hz, nw, ad, po, ct, sp, sb, pe, wc, re, ex, mi, le) (nI c) := by
  have hcl : (nI c).toNatClampNeg = c := nI_clamp (by omega)
  refine ⟨pr_i4 hc, ?_⟩
  rw [hcl]
  cases hpo with
  | inl h =>
    rw [decide_eq_true h] at H
    exact br_f (by rw [h]; decide) (pr_xmu hc hk hct hp (pr_xsv23 hc _ (fun j e => by have := pr_sel_in _ _ e; omega) H))
  | inr h =>
    rw [decide_eq_false (by rw [h]; decide)] at H
    exact br_t h (pr_xfp hc hk hct (pr_xsv23 hc _ (fun j e => by have := pr_sel_in _ _ e; omega) H))
end PR09
end
section
section PR10
variable {hz nw ad : Int32} {po ct sp sb pe wc re ex mi le : Nat → Int32}
/-! budgets refilled -/
def pr_rm (nw p : Int32) : Int32 := nw - nw / p * p
def pr_rf (nw : Int32) (sp sb le : Nat → Int32) : Nat → Int32 := fun c => if sp c = 0 then le c else if pr_rm nw (sp c) = 0 then sb c else le c
theorem pr_xrf2 {post : St2 → Prop} (H : post (hz, nw, ad, po, ct, sp, sb, pe, wc, re, ex, mi, pr_fill (pr_rf nw sp sb le) le 0 4)) :
    ∀ d c, c + d = 4 → wX_refillBudgets_2 post hz nw ad (d + 1) (nI c) po ct sp sb pe wc re ex mi (pr_fill (pr_rf nw sp sb le) le 0 c) := by
  intro d
  induction d with
  | zero =>
    intro c hc
    have e : c = 4 := by omega
    subst e
    exact pk_le 4 4 (fun _ => H) (fun z => absurd z (by omega))
  | succ d ih =>
    intro c hc
    have hc4 : c < 4 := by omega
    have hcl : (nI c).toNatClampNeg = c := nI_clamp (by omega)
    have W := ih (c + 1) (by omega)
    refine pk_le 4 c (fun z => absurd z (by omega)) (fun _ => pr_xhas hc4 (fun h1 => br_t rfl (nm_r (e' := nI (c + 1)) (nI_1 _) ?_)) (fun h1 => br_f pr_10 ⟨pr_i4 hc4, ?_⟩))
    · rw [← pr_fillN (show pr_rf nw sp sb le c = le c from if_pos h1)] at W; exact W
    · rw [hcl]
      refine ⟨h1, br_c (fun h2 => ⟨pr_i4 hc4, pr_i4 hc4, nm_r (e' := pr_fill (pr_rf nw sp sb le) le 0 (c + 1)) ?_ (nm_r (e' := nI (c + 1)) (nI_1 _) W)⟩) (fun h2 => nm_r (e' := nI (c + 1)) (nI_1 _) ?_)⟩
      · have e : sb c = pr_rf nw sp sb le c := by
          show sb c = if sp c = 0 then le c else if pr_rm nw (sp c) = 0 then sb c else le c
          rw [if_neg h1, if_pos (show pr_rm nw (sp c) = 0 from h2)]
        rw [e]; exact pr_fillS (Nat.zero_le _)
      · have e : pr_rf nw sp sb le c = le c := by
          show (if sp c = 0 then le c else if pr_rm nw (sp c) = 0 then sb c else le c) = le c
          rw [if_neg h1, if_neg (show ¬ pr_rm nw (sp c) = 0 from h2)]
        rw [← pr_fillN e] at W; exact W
theorem pr_xrf {post : St2 → Prop} (H : post (hz, nw, ad, po, ct, sp, sb, pe, wc, re, ex, mi, pr_fill (pr_rf nw sp sb le) le 0 4)) :
    wpX_refillBudgets post (hz, nw, ad, po, ct, sp, sb, pe, wc, re, ex, mi, le) := by
  have W := pr_xrf2 (le := le) H 4 0 (by omega)
  rw [pr_fill0] at W
  exact ⟨5, W⟩
/-! jobs released -/
def pr_rj (nw : Int32) (pe wc : Nat → Int32) (c b : Nat) (s : (Nat → Int32) × (Nat → Int32)) : Nat → (Nat → Int32) × (Nat → Int32)
  | 0 => s
  | i + 1 => if pr_rm nw (pe (b + i)) = 0 then (if (pr_rj nw pe wc c b s i).2 (b + i) ≤ 0 then (pr_rj nw pe wc c b s i).1 else upd (pr_rj nw pe wc c b s i).1 c ((pr_rj nw pe wc c b s i).1 c + 1), upd (pr_rj nw pe wc c b s i).2 (b + i) (wc (b + i))) else pr_rj nw pe wc c b s i
def pr_rl (nw : Int32) (ct pe wc : Nat → Int32) (s : (Nat → Int32) × (Nat → Int32)) : Nat → (Nat → Int32) × (Nat → Int32)
  | 0 => s
  | c + 1 => pr_rj nw pe wc c (c * 8) (pr_rl nw ct pe wc s c) (pr_K ct c)
section PR10S
variable {c b i : Nat} {s : (Nat → Int32) × (Nat → Int32)}
theorem pr_rj0 (h : ¬ pr_rm nw (pe (b + i)) = 0) : pr_rj nw pe wc c b s (i + 1) = pr_rj nw pe wc c b s i := if_neg h
theorem pr_rj1 (h : pr_rm nw (pe (b + i)) = 0) (h2 : (pr_rj nw pe wc c b s i).2 (b + i) ≤ 0) : pr_rj nw pe wc c b s (i + 1) = ((pr_rj nw pe wc c b s i).1, upd (pr_rj nw pe wc c b s i).2 (b + i) (wc (b + i))) := by
  have e : pr_rj nw pe wc c b s (i + 1) = (if (pr_rj nw pe wc c b s i).2 (b + i) ≤ 0 then (pr_rj nw pe wc c b s i).1 else upd (pr_rj nw pe wc c b s i).1 c ((pr_rj nw pe wc c b s i).1 c + 1), upd (pr_rj nw pe wc c b s i).2 (b + i) (wc (b + i))) := if_pos h
  rw [e, if_pos h2]
theorem pr_rj2 (h : pr_rm nw (pe (b + i)) = 0) (h2 : ¬ (pr_rj nw pe wc c b s i).2 (b + i) ≤ 0) : pr_rj nw pe wc c b s (i + 1) = (upd (pr_rj nw pe wc c b s i).1 c ((pr_rj nw pe wc c b s i).1 c + 1), upd (pr_rj nw pe wc c b s i).2 (b + i) (wc (b + i))) := by
  have e : pr_rj nw pe wc c b s (i + 1) = (if (pr_rj nw pe wc c b s i).2 (b + i) ≤ 0 then (pr_rj nw pe wc c b s i).1 else upd (pr_rj nw pe wc c b s i).1 c ((pr_rj nw pe wc c b s i).1 c + 1), upd (pr_rj nw pe wc c b s i).2 (b + i) (wc (b + i))) := if_pos h
  rw [e, if_neg h2]
end PR10S
theorem pr_xrj24 {post : St2 → Prop} {J : Int32 → (Nat → Int32) → (Nat → Int32) → (Nat → Int32) → (Nat → Int32) → (Nat → Int32) → (Nat → Int32) → (Nat → Int32) → (Nat → Int32) → (Nat → Int32) → (Nat → Int32) → Prop} {c k : Nat} {s : (Nat → Int32) × (Nat → Int32)} (hc : c < 4) (hk : k ≤ 8) (hp : ∀ i, i < k → ¬ pe (c * 8 + i) = 0)
    (H : J (nI (c + 1)) po ct sp sb pe wc (pr_rj nw pe wc c (c * 8) s k).2 ex (pr_rj nw pe wc c (c * 8) s k).1 le) :
    ∀ d i, i + d = k → wX_releaseJobs_24 post J (nI c) (nI (c * 8 + k)) hz nw ad (d + 1) (nI (c * 8 + i)) po ct sp sb pe wc (pr_rj nw pe wc c (c * 8) s i).2 ex (pr_rj nw pe wc c (c * 8) s i).1 le := by
  have hcc : (nI c).toNatClampNeg = c := nI_clamp (by omega)
  intro d
  induction d with
  | zero =>
    intro i hi
    have e : i = k := by omega
    subst e
    exact pk_le (c * 8 + i) (c * 8 + i) (fun _ => nm_r (nI_1 c) H) (fun z => absurd z (by omega))
  | succ d ih =>
    intro i hi
    have hin : vp_in (nI (c * 8 + i)) 32 := pr_i32 hc (by omega)
    have hcl : (nI (c * 8 + i)).toNatClampNeg = c * 8 + i := nI_clamp (by omega)
    have W := ih (i + 1) (by omega)
    refine pk_le (c * 8 + k) (c * 8 + i) (fun z => absurd z (by omega)) (fun _ => ⟨hin, ?_⟩)
    rw [hcl]
    refine ⟨hp i (by omega), br_c (fun h => ⟨hin, br_c (fun h2 => ?_) (fun h2 => ⟨pr_i4 hc, pr_i4 hc, ?_⟩)⟩) (fun h => nm_r (e' := nI (c * 8 + (i + 1))) (nI_1 _) ?_)⟩
    · rw [pr_rj1 h h2] at W
      exact ⟨hin, hin, nm_r (e' := upd (pr_rj nw pe wc c (c * 8) s i).2 (c * 8 + i) (wc (c * 8 + i))) (by rw [hcl]) (nm_r (e' := nI (c * 8 + (i + 1))) (nI_1 _) W)⟩
    · rw [pr_rj2 h h2] at W
      exact nm_r (e' := upd (pr_rj nw pe wc c (c * 8) s i).1 c ((pr_rj nw pe wc c (c * 8) s i).1 c + 1)) (by rw [hcc]) ⟨hin, hin, nm_r (e' := upd (pr_rj nw pe wc c (c * 8) s i).2 (c * 8 + i) (wc (c * 8 + i))) (by rw [hcl]) (nm_r (e' := nI (c * 8 + (i + 1))) (nI_1 _) W)⟩
    · rw [pr_rj0 h] at W; exact W
theorem pr_xrl2 {post : St2 → Prop} {s : (Nat → Int32) × (Nat → Int32)} (I : ∀ c, c < 4 → pr_C po ct sp sb pe c)
    (H : post (hz, nw, ad, po, ct, sp, sb, pe, wc, (pr_rl nw ct pe wc s 4).2, ex, (pr_rl nw ct pe wc s 4).1, le)) :
    ∀ d c, c + d = 4 → wX_releaseJobs_2 post hz nw ad (d + 1) (nI c) po ct sp sb pe wc (pr_rl nw ct pe wc s c).2 ex (pr_rl nw ct pe wc s c).1 le := by
  intro d
  induction d with
  | zero =>
    intro c hc
    have e : c = 4 := by omega
    subst e
    exact pk_le 4 4 (fun _ => H) (fun z => absurd z (by omega))
  | succ d ih =>
    intro c hc
    have hc4 : c < 4 := by omega
    have hcl : (nI c).toNatClampNeg = c := nI_clamp (by omega)
    obtain ⟨-, ⟨k, hk, hct, hpe⟩, -⟩ := I c hc4
    have W := ih (c + 1) (by omega)
    rw [show pr_rl nw ct pe wc s (c + 1) = pr_rj nw pe wc c (c * 8) (pr_rl nw ct pe wc s c) k from by rw [← pr_Ke hct (by omega)]; rfl] at W
    have V := pr_xrj24 (post := post) (hz := hz) (ad := ad) hc4 hk (pr_nz hpe) W k 0 (by omega)
    refine pk_le 4 c (fun z => absurd z (by omega)) (fun _ => nm_r (e' := nI (c * 8)) (pr_m8 c) ⟨pr_i4 hc4, nm_r (e' := nI (c * 8 + k)) ?_ ⟨k + 1, V⟩⟩)
    rw [hcl, hct]; exact nI_add _ _
theorem pr_xrl {post : St2 → Prop} (I : ∀ c, c < 4 → pr_C po ct sp sb pe c)
    (H : post (hz, nw, ad, po, ct, sp, sb, pe, wc, (pr_rl nw ct pe wc (mi, re) 4).2, ex, (pr_rl nw ct pe wc (mi, re) 4).1, le)) :
    wpX_releaseJobs post (hz, nw, ad, po, ct, sp, sb, pe, wc, re, ex, mi, le) :=
  ⟨5, pr_xrl2 (s := (mi, re)) I H 4 0 (by omega)⟩
theorem pr_xtail {post : St2 → Prop} (I : ∀ c, c < 4 → pr_C po ct sp sb pe c)
    (H : post (hz, nw + 1, ad, po, ct, sp, sb, pe, wc, (pr_rl (nw + 1) ct pe wc (mi, re) 4).2, ex, (pr_rl (nw + 1) ct pe wc (mi, re) 4).1, pr_fill (pr_rf (nw + 1) sp sb le) le 0 4)) :
    wX_simulateUnit_25 post hz nw ad po ct sp sb pe wc re ex mi le := by
  refine nm_e ?_
  refine pr_xrf ?_
  exact pr_xrl I H
/-! the reference's -/
/-! one unit on both sides -/
/-! the loop of run -/
end PR10
end
section
section PR11
/-! a time within 0 .. 100000 -/
theorem pr_xtime {post : Int32 → Prop} {x : Int32} (h0 : ¬ (∃ t, t ≤ 100000 ∧ x = nI t) → post 0) (h1 : ∀ t, t ≤ 100000 → x = nI t → post 1) : wpX_isBoundTime post () x := by
  refine br_c (fun z => h0 ?_) (fun z => br_c (fun z2 => h0 ?_) (fun z2 => ?_))
  · rintro ⟨t, ht, rfl⟩; exact nI_pos (by omega) z
  · rintro ⟨t, ht, rfl⟩; exact nI_nlt (a := 100000) ht (by omega) z2
  · obtain ⟨t, ht, rfl⟩ := nI_of z
    have h : t ≤ 100000 := by
      have h5 : ¬ nI 100000 < nI t := z2
      rw [nI_ltI (by omega) ht] at h5
      omega
    exact h1 t h rfl
/-! a task of a component -/
theorem pr_xtask {post : Int32 → Prop} {hz nw ad : Int32} {po ct sp sb pe wc re ex mi le : Nat → Int32} {x y : Int32} (I : ∀ c, c < 4 → pr_C po ct sp sb pe c)
    (h0 : ¬ (∃ c, c < 4 ∧ x = nI c) → post 0) (h1 : ∀ c, c < 4 → x = nI c → ¬ (∃ j n, j < n ∧ n ≤ 8 ∧ ct c = nI n ∧ y = nI j) → post 0) (h2 : ∀ c, c < 4 → x = nI c → ∀ j n, j < n → n ≤ 8 → ct c = nI n → y = nI j → post 1) :
    wpX_isTask post (hz, nw, ad, po, ct, sp, sb, pe, wc, re, ex, mi, le) x y := by
  unfold wpX_isTask
  refine pr_xcomp (fun z => br_t rfl (h0 z)) (fun c hc e => br_f pr_10 ?_)
  subst e
  have hcl : (nI c).toNatClampNeg = c := nI_clamp (by omega)
  obtain ⟨-, ⟨n, hn, hct, -⟩, -⟩ := I c hc
  refine br_c (fun z => h1 c hc rfl ?_) (fun z => ⟨pr_i4 hc, ?_⟩)
  · rintro ⟨j, m, h, hm, -, rfl⟩; exact nI_pos (by omega) z
  · obtain ⟨j, hj, rfl⟩ := nI_of z
    have hcc : ct (nI c).toNatClampNeg = nI n := by rw [hcl]; exact hct
    refine pk_le n j (fun y => h1 c hc rfl ?_) (fun y => h2 c hc rfl j n y hn hct rfl) hcc
    rintro ⟨j2, m, h, hm, e1, e2⟩
    have e3 : n = m := (nI_eq (by omega) (by omega)).mp (hct.symm.trans e1)
    have e4 : j = j2 := (nI_eq hj (by omega)).mp e2
    omega
/-! Y: the same test -/
end PR11
end
section
section PS31
/-! division -/
theorem ps_div1 {n P : Nat} (h : (n + 1) % P = 0) : (n + 1) / P = n / P + 1 ∧ (n / P + 1) * P = n + 1 := by
  have hP : 0 < P := by
    cases P with
    | zero => rw [Nat.mod_zero] at h; omega
    | succ p => omega
  have e := Nat.div_add_mod (n + 1) P
  rw [h, Nat.add_zero, Nat.mul_comm] at e
  cases q : (n + 1) / P with
  | zero => rw [q, Nat.zero_mul] at e; omega
  | succ m =>
    rw [q] at e
    have e2 : n / P = m := by
      apply Nat.div_eq_of_lt_le
      · rw [Nat.succ_mul] at e; omega
      · omega
    rw [e2]
    exact ⟨rfl, e⟩
theorem ps_div0 {n P : Nat} (h : ¬ (n + 1) % P = 0) : (n + 1) / P = n / P := by
  cases P with
  | zero => rw [Nat.div_zero, Nat.div_zero]
  | succ p =>
    have hP : 0 < p + 1 := by omega
    have lo := Nat.div_mul_le_self n (p + 1)
    have hi : n < (n / (p + 1) + 1) * (p + 1) := by
      have e := Nat.div_add_mod n (p + 1)
      have m := Nat.mod_lt n hP
      rw [Nat.mul_comm] at e
      rw [Nat.succ_mul]
      omega
    apply Nat.div_eq_of_lt_le
    · omega
    · by_cases z : n + 1 = (n / (p + 1) + 1) * (p + 1)
      · exact absurd (by rw [z]; exact Nat.mul_mod_left _ _) h
      · omega
theorem ps_up {n P : Nat} (hP : 0 < P) : n < (n / P + 1) * P := by
  have e := Nat.div_add_mod n P
  have m := Nat.mod_lt n hP
  rw [Nat.mul_comm] at e
  rw [Nat.succ_mul]
  omega
/-! sums -/
def ps_sum (f : Nat → Nat) : Nat → Nat
  | 0 => 0
  | n + 1 => ps_sum f n + f n
theorem ps_sumS {f : Nat → Nat} {n : Nat} : ps_sum f (n + 1) = ps_sum f n + f n := rfl
theorem ps_sum_le {f g : Nat → Nat} : ∀ n, (∀ i, i < n → f i ≤ g i) → ps_sum f n ≤ ps_sum g n := by
  intro n
  induction n with
  | zero => intro _; exact Nat.le_refl _
  | succ n ih =>
    intro h
    have a := ih (fun i hi => h i (by omega))
    have b := h n (by omega)
    rw [ps_sumS, ps_sumS]
    omega
theorem ps_sum_one {f : Nat → Nat} : ∀ n i, i < n → f i ≤ ps_sum f n := by
  intro n
  induction n with
  | zero => intro i hi; omega
  | succ n ih =>
    intro i hi
    rw [ps_sumS]
    by_cases z : i = n
    · subst z; omega
    · have := ih i (by omega)
      omega
theorem ps_sum_dec {f g : Nat → Nat} {j : Nat} : ∀ n, j < n → (∀ i, i < n → i ≠ j → g i ≤ f i) → g j + 1 ≤ f j → ps_sum g n + 1 ≤ ps_sum f n := by
  intro n
  induction n with
  | zero => intro hj; omega
  | succ n ih =>
    intro hj h hx
    rw [ps_sumS, ps_sumS]
    by_cases z : j = n
    · subst z
      have := ps_sum_le (f := g) (g := f) j (fun i hi => h i (by omega) (by omega))
      omega
    · have a := ih (by omega) (fun i hi => h i (by omega)) hx
      have b := h n (by omega) (fun y => z y.symm)
      omega
theorem ps_sum_zero {f : Nat → Nat} {n : Nat} (h : ps_sum f n = 0) : ∀ i, i < n → f i = 0 := by
  intro i hi
  have := ps_sum_one (f := f) n i hi
  omega
/-! what is due by d: period P, amount Q, rest l, at time n -/
def ps_w (P Q l n d : Nat) : Nat := if n / P < d / P then l + (d / P - (n / P + 1)) * Q else 0
theorem ps_w0 {P Q l n d : Nat} (h : ¬ n / P < d / P) : ps_w P Q l n d = 0 := if_neg h
theorem ps_w1 {P Q l n d : Nat} (h : n / P < d / P) : ps_w P Q l n d = l + (d / P - (n / P + 1)) * Q := if_pos h
theorem ps_pos {P n d : Nat} (h : n / P < d / P) : 0 < P := by
  cases P with
  | zero => rw [Nat.div_zero, Nat.div_zero] at h; omega
  | succ p => omega
theorem ps_wle {P Q l l1 n d : Nat} (h : l1 ≤ l) : ps_w P Q l1 n d ≤ ps_w P Q l n d := by
  by_cases z : n / P < d / P
  · rw [ps_w1 z, ps_w1 z]; omega
  · rw [ps_w0 z, ps_w0 z]; omega
theorem ps_widle {P Q n d : Nat} (hd : n + 1 ≤ d) : ps_w P Q 0 n d ≤ (d - n - 1) / P * Q := by
  by_cases z : n / P < d / P
  · rw [ps_w1 z, Nat.zero_add]
    have hP := ps_pos z
    apply Nat.mul_le_mul_right
    rw [Nat.le_div_iff_mul_le hP, Nat.sub_mul]
    have a := Nat.div_mul_le_self d P
    have b := ps_up (n := n) hP
    omega
  · rw [ps_w0 z]; exact Nat.zero_le _
theorem ps_wnext {P Q l l2 n d : Nat} (hd : n + 1 ≤ d) (h1 : (n + 1) % P = 0 → l2 = Q) (h2 : ¬ (n + 1) % P = 0 → l2 = l) : ps_w P Q l2 (n + 1) d ≤ ps_w P Q l n d := by
  by_cases h : (n + 1) % P = 0
  · have e := (ps_div1 h).1
    rw [h1 h]
    by_cases z : (n + 1) / P < d / P
    · rw [ps_w1 z, ps_w1 (by omega)]
      rw [e] at z
      obtain ⟨m, hm⟩ : ∃ m, d / P = n / P + 1 + 1 + m := ⟨d / P - (n / P + 1 + 1), by omega⟩
      rw [e, hm, show n / P + 1 + 1 + m - (n / P + 1 + 1) = m from by omega, show n / P + 1 + 1 + m - (n / P + 1) = m + 1 from by omega, Nat.succ_mul]
      omega
    · rw [ps_w0 z]; exact Nat.zero_le _
  · rw [h2 h]
    unfold ps_w
    rw [ps_div0 h]
    exact Nat.le_refl _
theorem ps_wstart {P Q d : Nat} : ps_w P Q Q 0 d ≤ d / P * Q := by
  by_cases z : 0 / P < d / P
  · rw [ps_w1 z]
    rw [Nat.zero_div] at z ⊢
    obtain ⟨m, hm⟩ : ∃ m, d / P = m + 1 := ⟨d / P - 1, by omega⟩
    rw [hm, show m + 1 - (0 + 1) = m from by omega, Nat.succ_mul]
    omega
  · rw [ps_w0 z]; exact Nat.zero_le _
/-! one unit given to the earliest deadline -/
def ps_pick (N : Nat) (P l l1 : Nat → Nat) (n : Nat) : Prop :=
  ((∀ c, c < N → 0 < P c → l c = 0) ∧ l1 = l) ∨
  ∃ j, j < N ∧ 0 < P j ∧ l1 j + 1 = l j ∧ (∀ c, c ≠ j → l1 c = l c) ∧ ∀ c, c < N → 0 < P c → 0 < l c → (n / P j + 1) * P j ≤ (n / P c + 1) * P c
theorem ps_edf {N n d : Nat} {P Q l l1 : Nat → Nat} (hd : n + 1 ≤ d) (h : ps_pick N P l l1 n) :
    ps_sum (fun c => ps_w (P c) (Q c) (l1 c) n d) N + 1 ≤ ps_sum (fun c => ps_w (P c) (Q c) (l c) n d) N ∨ ps_sum (fun c => ps_w (P c) (Q c) (l1 c) n d) N ≤ ps_sum (fun c => (d - n - 1) / P c * Q c) N := by
  cases h with
  | inl h =>
    obtain ⟨h, rfl⟩ := h
    refine Or.inr (ps_sum_le _ (fun c hc => ?_))
    show ps_w (P c) (Q c) (l1 c) n d ≤ (d - n - 1) / P c * Q c
    by_cases z : n / P c < d / P c
    · rw [h c hc (ps_pos z)]; exact ps_widle hd
    · rw [ps_w0 z]; exact Nat.zero_le _
  | inr h =>
    obtain ⟨j, hj, hP, hl, ho, hm⟩ := h
    by_cases z : n / P j < d / P j
    · refine Or.inl (ps_sum_dec (j := j) _ hj (fun c _ hne => ?_) ?_)
      · show ps_w (P c) (Q c) (l1 c) n d ≤ ps_w (P c) (Q c) (l c) n d
        rw [ho c hne]; exact Nat.le_refl _
      · show ps_w (P j) (Q j) (l1 j) n d + 1 ≤ ps_w (P j) (Q j) (l j) n d
        rw [ps_w1 z, ps_w1 z]; omega
    · refine Or.inr (ps_sum_le _ (fun c hc => ?_))
      show ps_w (P c) (Q c) (l1 c) n d ≤ (d - n - 1) / P c * Q c
      by_cases y : n / P c < d / P c
      · have hcj : c ≠ j := fun e => z (e ▸ y)
        rw [ho c hcj]
        by_cases x : l c = 0
        · rw [x]; exact ps_widle hd
        · have a := hm c hc (ps_pos y) (by omega)
          have b : (n / P c + 1) * P c ≤ d := Nat.le_trans (Nat.mul_le_mul_right _ y) (Nat.div_mul_le_self d (P c))
          have w : n / P j + 1 ≤ d / P j := by
            rw [Nat.le_div_iff_mul_le hP]
            omega
          exact absurd w z
      · rw [ps_w0 y]; exact Nat.zero_le _
/-! the servers together -/
def ps_S (P Q l : Nat → Nat) (n m : Nat) : Prop := ∀ d, m ≤ d → ps_sum (fun c => ps_w (P c) (Q c) (l c) n d) 4 ≤ d - m
def ps_BW (P Q : Nat → Nat) : Prop := ∀ d, ps_sum (fun c => d / P c * Q c) 4 ≤ d
theorem ps_S0 {P Q : Nat → Nat} (h : ps_BW P Q) : ps_S P Q Q 0 0 := by
  intro d _
  exact Nat.le_trans (ps_sum_le _ (fun c _ => ps_wstart)) (h d)
theorem ps_S1 {P Q l l1 : Nat → Nat} {n : Nat} (hb : ps_BW P Q) (h : ps_S P Q l n n) (hp : ps_pick 4 P l l1 n) : ps_S P Q l1 n (n + 1) := by
  intro d hd
  have a := h d (by omega)
  cases ps_edf (Q := Q) hd hp with
  | inl z => omega
  | inr z =>
    have b := hb (d - n - 1)
    omega
theorem ps_S2 {P Q l1 l2 : Nat → Nat} {n : Nat} (h : ps_S P Q l1 n (n + 1)) (h1 : ∀ c, c < 4 → (n + 1) % P c = 0 → l2 c = Q c) (h2 : ∀ c, c < 4 → ¬ (n + 1) % P c = 0 → l2 c = l1 c) : ps_S P Q l2 (n + 1) (n + 1) := by
  intro d hd
  exact Nat.le_trans (ps_sum_le _ (fun c hc => ps_wnext hd (h1 c hc) (h2 c hc))) (h d hd)
/-- what is left fits into the period -/
theorem ps_fit {P Q l : Nat → Nat} {n m c : Nat} (h : ps_S P Q l n m) (hc : c < 4) (hP : 0 < P c) (hm : m ≤ (n / P c + 1) * P c) : l c ≤ (n / P c + 1) * P c - m := by
  have a := h _ hm
  have b := ps_sum_one (f := fun c' => ps_w (P c') (Q c') (l c') n ((n / P c + 1) * P c)) 4 c hc
  have e : (n / P c + 1) * P c / P c = n / P c + 1 := Nat.mul_div_cancel _ hP
  have w : ps_w (P c) (Q c) (l c) n ((n / P c + 1) * P c) = l c + ((n / P c + 1) - (n / P c + 1)) * Q c := by
    rw [ps_w1 (by omega), e]
  have b' : ps_w (P c) (Q c) (l c) n ((n / P c + 1) * P c) ≤ ps_sum (fun c' => ps_w (P c') (Q c') (l c') n ((n / P c + 1) * P c)) 4 := b
  rw [w, Nat.sub_self, Nat.zero_mul] at b'
  omega
end PS31
end
section
section PS32
/-! the least supply over x units that begin with a period, its budget given last -/
def ps_U (P Q x : Nat) : Nat := x / P * Q + (x % P - (P - Q))
theorem ps_U0 {P Q : Nat} : ps_U P Q 0 = 0 := by
  unfold ps_U
  rw [Nat.zero_div, Nat.zero_mod, Nat.zero_mul]
  omega
theorem ps_Ustep {P Q x : Nat} (hP : 0 < P) (hQ : Q ≤ P) : ps_U P Q x ≤ ps_U P Q (x + 1) ∧ ps_U P Q (x + 1) ≤ ps_U P Q x + 1 := by
  unfold ps_U
  have m := Nat.mod_lt x hP
  have e1 := Nat.div_add_mod x P
  have e2 := Nat.div_add_mod (x + 1) P
  by_cases h : (x + 1) % P = 0
  · have e := (ps_div1 h).1
    rw [e] at e2 ⊢
    rw [h] at e2 ⊢
    rw [Nat.mul_add, Nat.mul_one] at e2
    rw [Nat.succ_mul]
    omega
  · have e := ps_div0 h
    rw [e] at e2 ⊢
    omega
theorem ps_Umono {P Q x : Nat} (hP : 0 < P) (hQ : Q ≤ P) : ∀ y, ps_U P Q x ≤ ps_U P Q (x + y) ∧ ps_U P Q (x + y) ≤ ps_U P Q x + y := by
  intro y
  induction y with
  | zero => exact ⟨Nat.le_refl _, Nat.le_refl _⟩
  | succ y ih =>
    have s := ps_Ustep (x := x + y) hP hQ
    have e : x + (y + 1) = x + y + 1 := rfl
    rw [e]
    omega
theorem ps_Uadd {P Q x : Nat} (hP : 0 < P) : ps_U P Q (x + P) = Q + ps_U P Q x := by
  unfold ps_U
  rw [Nat.add_div_right _ hP, Nat.add_mod_right, Nat.succ_mul]
  omega
theorem ps_sbU {P Q t : Nat} (hP : 0 < P) (hQ : Q ≤ P) : pr_sb P Q t = ps_U P Q (t - (P - Q)) := by
  unfold pr_sb
  by_cases h : Q = 0 ∨ t ≤ P - Q
  · rw [if_pos h]
    cases h with
    | inl h =>
      unfold ps_U
      subst h
      have m := Nat.mod_lt (t - (P - 0)) hP
      rw [Nat.mul_zero]
      omega
    | inr h => rw [show t - (P - Q) = 0 from by omega, ps_U0]
  · rw [if_neg h]; rfl
/-! the least supply up to d, in period k with l left -/
def ps_L (P Q k l d : Nat) : Nat := if d ≤ (k + 1) * P then l - ((k + 1) * P - d) else l + ps_U P Q (d - (k + 1) * P)
theorem ps_Ldec {P Q k l d : Nat} : ps_L P Q k (l + 1) d ≤ ps_L P Q k l d + 1 := by
  unfold ps_L
  by_cases h : d ≤ (k + 1) * P
  · rw [if_pos h, if_pos h]; omega
  · rw [if_neg h, if_neg h]; omega
theorem ps_Lend {P Q k l d : Nat} (hd : d ≤ (k + 1) * P) (hl : l ≤ (k + 1) * P - d) : ps_L P Q k l d = 0 := by
  unfold ps_L
  rw [if_pos hd]
  omega
theorem ps_Lfill {P Q k d : Nat} (hP : 0 < P) (hQ : Q ≤ P) (hd : (k + 1) * P ≤ d) : ps_L P Q k 0 d ≤ ps_L P Q (k + 1) Q d := by
  unfold ps_L
  have e : (k + 1 + 1) * P = (k + 1) * P + P := Nat.succ_mul _ _
  rw [e]
  generalize (k + 1) * P = s at hd
  by_cases h : d ≤ s
  · rw [if_pos h]; omega
  · rw [if_neg h]
    by_cases h2 : d ≤ s + P
    · rw [if_pos h2]
      by_cases h3 : d = s + P
      · have e3 : d - s = 0 + P := by omega
        rw [e3, ps_Uadd hP, ps_U0]
        omega
      · unfold ps_U
        rw [Nat.div_eq_of_lt (show d - s < P by omega), Nat.mod_eq_of_lt (show d - s < P by omega)]
        omega
    · rw [if_neg h2]
      have e3 : d - s = (d - (s + P)) + P := by omega
      rw [e3, ps_Uadd hP]
      omega
theorem ps_Lsb {P Q k l s t : Nat} (hP : 0 < P) (hQ : Q ≤ P) (h1 : k * P ≤ s) (h2 : s ≤ (k + 1) * P) (ha : Q ≤ l + (s - k * P)) : pr_sb P Q t ≤ ps_L P Q k l (s + t) := by
  rw [ps_sbU hP hQ]
  unfold ps_L
  have e : (k + 1) * P = k * P + P := Nat.succ_mul _ _
  rw [e] at h2 ⊢
  generalize k * P = z at h1 h2 ha
  by_cases h : s + t ≤ z + P
  · rw [if_pos h]
    have u := (ps_Umono (Q := Q) (x := 0) hP hQ (t - (P - Q))).2
    rw [ps_U0, Nat.zero_add] at u
    omega
  · rw [if_neg h]
    by_cases y : t - (P - Q) ≤ s + t - (z + P)
    · obtain ⟨w, hw⟩ : ∃ w, s + t - (z + P) = t - (P - Q) + w := ⟨s + t - (z + P) - (t - (P - Q)), by omega⟩
      have u := (ps_Umono (Q := Q) (x := t - (P - Q)) hP hQ w).1
      rw [hw]
      omega
    · obtain ⟨w, hw⟩ : ∃ w, t - (P - Q) = s + t - (z + P) + w := ⟨t - (P - Q) - (s + t - (z + P)), by omega⟩
      have u := (ps_Umono (Q := Q) (x := s + t - (z + P)) hP hQ w).2
      rw [hw]
      omega
/-! one server's step: left l, after the unit l1, after the refill l2 -/
theorem ps_Lnext {P Q l1 l2 n d : Nat} (hP : 0 < P) (hQ : Q ≤ P) (hd : n + 1 ≤ d) (hf : l1 ≤ (n / P + 1) * P - (n + 1)) (h1 : (n + 1) % P = 0 → l2 = Q) (h2 : ¬ (n + 1) % P = 0 → l2 = l1) :
    ps_L P Q (n / P) l1 d ≤ ps_L P Q ((n + 1) / P) l2 d := by
  by_cases h : (n + 1) % P = 0
  · have e := ps_div1 h
    rw [h1 h, e.1]
    rw [e.2, Nat.sub_self] at hf
    rw [show l1 = 0 from by omega]
    exact ps_Lfill hP hQ (by rw [e.2]; exact hd)
  · rw [h2 h, ps_div0 h]
    exact Nat.le_refl _
def ps_age (P Q l n : Nat) : Prop := Q ≤ l + (n - n / P * P)
theorem ps_age1 {P Q l l1 n : Nat} (h : ps_age P Q l n) (hl : l ≤ l1 + 1) : Q ≤ l1 + (n + 1 - n / P * P) := by
  have a := Nat.div_mul_le_self n P
  unfold ps_age at h
  omega
theorem ps_age2 {P Q l1 l2 n : Nat} (h : Q ≤ l1 + (n + 1 - n / P * P)) (h1 : (n + 1) % P = 0 → l2 = Q) (h2 : ¬ (n + 1) % P = 0 → l2 = l1) : ps_age P Q l2 (n + 1) := by
  unfold ps_age
  by_cases z : (n + 1) % P = 0
  · rw [h1 z]; omega
  · rw [h2 z, ps_div0 z]; exact h
end PS32
section PS33
/-! a component by earliest deadlines: N tasks of periods T, wcets C, rests r -/
def ps_D (T C r : Nat → Nat) (N n d : Nat) : Nat := ps_sum (fun i => ps_w (T i) (C i) (r i) n d) N
def ps_covE (T C : Nat → Nat) (N P Q H : Nat) : Prop := ∀ t, 1 ≤ t → t ≤ H → ps_sum (fun i => t / T i * C i) N ≤ pr_sb P Q t
def ps_E (T C r : Nat → Nat) (N P Q l n m H : Nat) : Prop := ∀ d, m ≤ d → d ≤ H → ps_D T C r N n d ≤ ps_L P Q (n / P) l d
theorem ps_E0 {T C : Nat → Nat} {N P Q H : Nat} (hP : 0 < P) (hQ : Q ≤ P) (hc : ps_covE T C N P Q H) : ps_E T C C N P Q Q 0 0 H := by
  intro d _ hd
  have a : ps_D T C C N 0 d ≤ ps_sum (fun i => d / T i * C i) N := ps_sum_le _ (fun c _ => ps_wstart)
  have s := ps_Lsb (P := P) (Q := Q) (k := 0) (l := Q) (s := 0) (t := d) hP hQ (by omega) (by omega) (by omega)
  rw [Nat.zero_add] at s
  rw [Nat.zero_div]
  by_cases z : d = 0
  · subst z
    have b : ps_sum (fun i => 0 / T i * C i) N ≤ ps_sum (fun _ => 0) N := ps_sum_le _ (fun i _ => by
      show 0 / T i * C i ≤ 0
      rw [Nat.zero_div, Nat.zero_mul]
      exact Nat.le_refl _)
    have c : ∀ M, ps_sum (fun _ => 0) M = 0 := by
      intro M
      induction M with
      | zero => rfl
      | succ M ih => rw [ps_sumS, ih]
    have c' := c N
    omega
  · have b := hc d (by omega) hd
    omega
/-- the component isn't given the unit -/
theorem ps_E1n {T C r : Nat → Nat} {N P Q l n H : Nat} (h : ps_E T C r N P Q l n n H) : ps_E T C r N P Q l n (n + 1) H := fun d hd hH => h d (by omega) hH
/-- it is given the unit -/
theorem ps_E1 {T C r r1 : Nat → Nat} {N P Q l1 n H : Nat} (hP : 0 < P) (hQ : Q ≤ P) (hc : ps_covE T C N P Q H) (h : ps_E T C r N P Q (l1 + 1) n n H) (ha : ps_age P Q (l1 + 1) n) (hp : ps_pick N T r r1 n) : ps_E T C r1 N P Q l1 n (n + 1) H := by
  intro d hd hH
  have a := h d (by omega) hH
  have b := ps_Ldec (P := P) (Q := Q) (k := n / P) (l := l1) (d := d)
  unfold ps_D at a ⊢
  cases ps_edf (Q := C) hd hp with
  | inl z => omega
  | inr z =>
    have u := Nat.div_mul_le_self n P
    have v := ps_up (n := n) hP
    have s := ps_Lsb (P := P) (Q := Q) (k := n / P) (l := l1) (s := n + 1) (t := d - n - 1) hP hQ (by omega) (by omega) (ps_age1 ha (Nat.le_refl _))
    rw [show n + 1 + (d - n - 1) = d from by omega] at s
    by_cases y : d - n - 1 = 0
    · rw [y] at z
      have w : ps_sum (fun i => 0 / T i * C i) N ≤ ps_sum (fun i => ps_w (T i) (C i) (r1 i) n n) N := ps_sum_le _ (fun i _ => by
        show 0 / T i * C i ≤ _
        rw [Nat.zero_div, Nat.zero_mul]
        exact Nat.zero_le _)
      have w2 : ∀ M, ps_sum (fun i => ps_w (T i) (C i) (r1 i) n n) M = 0 := by
        intro M
        induction M with
        | zero => rfl
        | succ M ih =>
          rw [ps_sumS, ih, Nat.zero_add]
          exact ps_w0 (Nat.lt_irrefl _)
      have w3 := w2 N
      omega
    · have k := hc (d - n - 1) (by omega) (by omega)
      omega
theorem ps_E2 {T C r1 r2 : Nat → Nat} {N P Q l1 l2 n H : Nat} (hP : 0 < P) (hQ : Q ≤ P) (h : ps_E T C r1 N P Q l1 n (n + 1) H) (hf : l1 ≤ (n / P + 1) * P - (n + 1))
    (h1 : (n + 1) % P = 0 → l2 = Q) (h2 : ¬ (n + 1) % P = 0 → l2 = l1) (k1 : ∀ i, i < N → (n + 1) % T i = 0 → r2 i = C i) (k2 : ∀ i, i < N → ¬ (n + 1) % T i = 0 → r2 i = r1 i) :
    ps_E T C r2 N P Q l2 (n + 1) (n + 1) H := by
  intro d hd hH
  have a : ps_D T C r2 N (n + 1) d ≤ ps_D T C r1 N n d := ps_sum_le _ (fun i hi => ps_wnext hd (k1 i hi) (k2 i hi))
  exact Nat.le_trans a (Nat.le_trans (h d hd hH) (ps_Lnext hP hQ hd hf h1 h2))
theorem ps_Em {T C r1 : Nat → Nat} {N P Q l1 n H i : Nat} (hP : 0 < P) (h : ps_E T C r1 N P Q l1 n (n + 1) H) (hf : l1 ≤ (n / P + 1) * P - (n + 1)) (hH : n + 1 ≤ H) (hi : i < N) (hm : (n + 1) % T i = 0) : r1 i = 0 := by
  have a := h (n + 1) (Nat.le_refl _) hH
  rw [ps_Lend (ps_up hP) hf] at a
  have b : ps_w (T i) (C i) (r1 i) n (n + 1) ≤ ps_D T C r1 N n (n + 1) := ps_sum_one (f := fun i => ps_w (T i) (C i) (r1 i) n (n + 1)) N i hi
  rw [ps_w1 (by rw [(ps_div1 hm).1]; omega)] at b
  omega
/-! a component by fixed priorities -/
def ps_covF (T C : Nat → Nat) (N P Q : Nat) : Prop := ∀ j, j < N → ∃ t, 1 ≤ t ∧ t ≤ T j ∧ ps_sum (fun i => (t + T i - 1) / T i * C i) (j + 1) ≤ pr_sb P Q t
def ps_F1 (T C r : Nat → Nat) (P Q l n m j : Nat) : Prop := ps_sum r (j + 1) = 0 ∨ ∃ d, m < d ∧ d ≤ n + T j ∧ (0 < r j → d ≤ (n / T j + 1) * T j) ∧ ps_sum (fun i => r i + ((d - 1) / T i - n / T i) * C i) (j + 1) ≤ ps_L P Q (n / P) l d
def ps_F (T C r : Nat → Nat) (N P Q l n m : Nat) : Prop := ∀ j, j < N → ps_F1 T C r P Q l n m j
def ps_first (N : Nat) (r r1 : Nat → Nat) : Prop :=
  ((∀ i, i < N → r i = 0) ∧ r1 = r) ∨ ∃ j, j < N ∧ r1 j + 1 = r j ∧ (∀ i, i ≠ j → r1 i = r i) ∧ ∀ i, i < j → r i = 0
theorem ps_split {a b T : Nat} (hT : 0 < T) : (a + b) / T - a / T ≤ (b + T) / T := by
  have e := Nat.div_add_mod a T
  have m := Nat.mod_lt a hT
  have h : (a + b) / T ≤ (b + T + a / T * T) / T := by
    apply Nat.div_le_div_right
    rw [Nat.mul_comm (a / T) T]
    omega
  rw [Nat.add_mul_div_right _ _ hT] at h
  exact Nat.sub_le_iff_le_add.mpr h
/-- a new busy stretch: nothing is left over but what is released at n -/
theorem ps_Fnew {T C r : Nat → Nat} {N P Q l n j : Nat} (hT : ∀ i, i < N → 0 < T i) (hP : 0 < P) (hQ : Q ≤ P) (hc : ps_covF T C N P Q) (ha : ps_age P Q l n) (hj : j < N) (hr : ∀ i, i ≤ j → (n % T i = 0 ∧ r i = C i) ∨ r i = 0) : ps_F1 T C r P Q l n n j := by
  obtain ⟨t, t1, t2, hs⟩ := hc j hj
  have u := Nat.div_mul_le_self n P
  have v := ps_up (n := n) hP
  have s := ps_Lsb (P := P) (Q := Q) (k := n / P) (l := l) (s := n) (t := t) hP hQ u (by omega) ha
  refine Or.inr ⟨n + t, by omega, by omega, fun h => ?_, Nat.le_trans (ps_sum_le _ (fun i hi => ?_)) (Nat.le_trans hs s)⟩
  · cases hr j (Nat.le_refl _) with
    | inl z =>
      have e := Nat.div_add_mod n (T j)
      rw [z.1, Nat.add_zero, Nat.mul_comm] at e
      rw [Nat.succ_mul, e]
      omega
    | inr z => omega
  · show r i + ((n + t - 1) / T i - n / T i) * C i ≤ (t + T i - 1) / T i * C i
    have hTi := hT i (by omega)
    have e1 : n + t - 1 = n + (t - 1) := by omega
    have e2 : t + T i - 1 = t - 1 + T i := by omega
    rw [e1, e2]
    cases hr i (by omega) with
    | inl z =>
      have e := Nat.div_add_mod n (T i)
      rw [z.1, Nat.add_zero] at e
      have e3 : (n + (t - 1)) / T i = (t - 1) / T i + n / T i := by
        have e4 : n + (t - 1) = (t - 1) + T i * (n / T i) := by omega
        rw [e4, Nat.add_mul_div_left _ _ hTi]
      rw [z.2, e3, Nat.add_div_right _ hTi, Nat.succ_mul, Nat.add_sub_cancel]
      omega
    | inr z =>
      rw [z, Nat.zero_add]
      exact Nat.mul_le_mul_right _ (ps_split hTi)
theorem ps_Flow {T C r r1 : Nat → Nat} {P Q l1 n j : Nat} (hP : 0 < P) (hf : l1 ≤ (n / P + 1) * P - (n + 1)) (h0 : ps_sum r (j + 1) = 0 → ps_sum r1 (j + 1) = 0)
    (hr : r1 j ≤ r j) (h : ps_sum r (j + 1) = 0 ∨ ∃ d, n < d ∧ d ≤ n + T j ∧ (0 < r j → d ≤ (n / T j + 1) * T j) ∧ ps_sum (fun i => r1 i + ((d - 1) / T i - n / T i) * C i) (j + 1) ≤ ps_L P Q (n / P) l1 d) : ps_F1 T C r1 P Q l1 n (n + 1) j := by
  cases h with
  | inl h => exact Or.inl (h0 h)
  | inr h =>
    obtain ⟨d, d1, d2, d3, d4⟩ := h
    by_cases z : d = n + 1
    · subst z
      rw [ps_Lend (ps_up hP) hf] at d4
      have a : ps_sum r1 (j + 1) ≤ ps_sum (fun i => r1 i + ((n + 1 - 1) / T i - n / T i) * C i) (j + 1) := ps_sum_le _ (fun i _ => Nat.le_add_right _ _)
      exact Or.inl (by omega)
    · exact Or.inr ⟨d, by omega, d2, fun y => d3 (by omega), d4⟩
theorem ps_Fn {T C r : Nat → Nat} {N P Q l n : Nat} (hP : 0 < P) (hf : l ≤ (n / P + 1) * P - (n + 1)) (h : ps_F T C r N P Q l n n) : ps_F T C r N P Q l n (n + 1) :=
  fun j hj => ps_Flow hP hf (fun z => z) (Nat.le_refl _) (h j hj)
theorem ps_Fs {T C r r1 : Nat → Nat} {N P Q l1 n : Nat} (hP : 0 < P) (hf : l1 ≤ (n / P + 1) * P - (n + 1)) (h : ps_F T C r N P Q (l1 + 1) n n) (hp : ps_first N r r1) : ps_F T C r1 N P Q l1 n (n + 1) := by
  intro j hj
  cases hp with
  | inl z =>
    obtain ⟨z, rfl⟩ := z
    have s : ps_sum r1 (j + 1) = 0 := by
      have a : ∀ M, M ≤ j + 1 → ps_sum r1 M = 0 := by
        intro M
        induction M with
        | zero => intro _; rfl
        | succ M ih => intro hM; rw [ps_sumS, ih (by omega), z M (by omega)]
      exact a _ (Nat.le_refl _)
    exact Or.inl s
  | inr z =>
    obtain ⟨i, hi, e, ho, hz⟩ := z
    have hle : ∀ m, r1 m ≤ r m := by
      intro m
      by_cases y : m = i
      · subst y; omega
      · rw [ho m y]; exact Nat.le_refl _
    refine ps_Flow (r := r) hP hf (fun y => ?_) (hle j) ?_
    · have := ps_sum_le (f := r1) (g := r) (j + 1) (fun m _ => hle m)
      omega
    · cases h j hj with
      | inl y => exact Or.inl y
      | inr y =>
        by_cases x : ps_sum r (j + 1) = 0
        · exact Or.inl x
        · obtain ⟨d, d1, d2, d3, d4⟩ := y
          refine Or.inr ⟨d, d1, d2, d3, ?_⟩
          have hij : i < j + 1 := by
            by_cases w : i < j + 1
            · exact w
            · have a : ∀ M, M ≤ j + 1 → ps_sum r M = 0 := by
                intro M
                induction M with
                | zero => intro _; rfl
                | succ M ih => intro hM; rw [ps_sumS, ih (by omega), hz M (by omega)]
              exact absurd (a _ (Nat.le_refl _)) x
          have b := ps_Ldec (P := P) (Q := Q) (k := n / P) (l := l1) (d := d)
          have c := ps_sum_dec (f := fun m => r m + ((d - 1) / T m - n / T m) * C m) (g := fun m => r1 m + ((d - 1) / T m - n / T m) * C m) (j := i) (j + 1) hij (fun m _ hm => by
            show r1 m + _ ≤ r m + _
            rw [ho m hm]
            exact Nat.le_refl _) (by
            show r1 i + _ + 1 ≤ r i + _
            omega)
          omega
theorem ps_Fm {T C r1 : Nat → Nat} {N P Q l1 n i : Nat} (h : ps_F T C r1 N P Q l1 n (n + 1)) (hi : i < N) (hm : (n + 1) % T i = 0) : r1 i = 0 := by
  cases h i hi with
  | inl z => exact ps_sum_zero z i (by omega)
  | inr z =>
    obtain ⟨d, d1, d2, d3, d4⟩ := z
    rw [(ps_div1 hm).2] at d3
    by_cases y : r1 i = 0
    · exact y
    · have := d3 (by omega)
      omega
theorem ps_F2 {T C r1 r2 : Nat → Nat} {N P Q l1 l2 n : Nat} (hT : ∀ i, i < N → 0 < T i) (hP : 0 < P) (hQ : Q ≤ P) (hc : ps_covF T C N P Q) (h : ps_F T C r1 N P Q l1 n (n + 1)) (hf : l1 ≤ (n / P + 1) * P - (n + 1)) (ha : ps_age P Q l2 (n + 1))
    (h1 : (n + 1) % P = 0 → l2 = Q) (h2 : ¬ (n + 1) % P = 0 → l2 = l1) (k1 : ∀ i, i < N → (n + 1) % T i = 0 → r2 i = C i) (k2 : ∀ i, i < N → ¬ (n + 1) % T i = 0 → r2 i = r1 i) :
    ps_F T C r2 N P Q l2 (n + 1) (n + 1) := by
  intro j hj
  cases h j hj with
  | inl z =>
    refine ps_Fnew hT hP hQ hc ha hj (fun i hi => ?_)
    by_cases y : (n + 1) % T i = 0
    · exact Or.inl ⟨y, k1 i (by omega) y⟩
    · exact Or.inr (by rw [k2 i (by omega) y]; exact ps_sum_zero z i (by omega))
  | inr z =>
    obtain ⟨d, d1, d2, d3, d4⟩ := z
    refine Or.inr ⟨d, d1, by omega, fun y => ?_, Nat.le_trans (ps_sum_le _ (fun i hi => ?_)) (Nat.le_trans d4 (ps_Lnext hP hQ (by omega) hf h1 h2))⟩
    · by_cases x : (n + 1) % T j = 0
      · have e := ps_div1 x
        rw [e.1, Nat.succ_mul, e.2]
        omega
      · rw [ps_div0 x]
        rw [k2 j hj x] at y
        exact d3 y
    · show r2 i + ((d - 1) / T i - (n + 1) / T i) * C i ≤ r1 i + ((d - 1) / T i - n / T i) * C i
      by_cases x : (n + 1) % T i = 0
      · have e := ps_div1 x
        have g : (n + 1) / T i ≤ (d - 1) / T i := Nat.div_le_div_right (by omega)
        rw [k1 i (by omega) x]
        rw [e.1] at g ⊢
        obtain ⟨m, hm⟩ : ∃ m, (d - 1) / T i = n / T i + 1 + m := ⟨(d - 1) / T i - (n / T i + 1), by omega⟩
        rw [hm, show n / T i + 1 + m - (n / T i + 1) = m from by omega, show n / T i + 1 + m - n / T i = m + 1 from by omega, Nat.succ_mul]
        omega
      · rw [k2 i (by omega) x, ps_div0 x]
        exact Nat.le_refl _
end PS33
end
section
section PS34
variable {sp sb le pe wc re ct mi : Nat → Int32}
/-! the bandwidth -/
theorem ps_pdpos {P : Nat → Nat} : ∀ n, 0 < pr_pd P n := by
  intro n
  induction n with
  | zero => exact Nat.one_pos
  | succ n ih =>
    by_cases z : P n = 0
    · rw [pr_pd0 z]; exact ih
    · rw [pr_pd1 z]; exact Nat.mul_pos ih (by omega)
theorem ps_bwn {P Q : Nat → Nat} {d : Nat} : ∀ n, ps_sum (fun c => d / P c * Q c) n * pr_pd P n ≤ d * pr_us P Q n := by
  intro n
  induction n with
  | zero => exact Nat.le_of_eq (by rw [show ps_sum (fun c => d / P c * Q c) 0 = 0 from rfl, Nat.zero_mul]; exact (Nat.mul_zero d).symm)
  | succ n ih =>
    rw [ps_sumS]
    by_cases z : P n = 0
    · rw [pr_pd0 z, pr_us0 z, z, Nat.div_zero, Nat.zero_mul, Nat.add_zero]; exact ih
    · rw [pr_pd1 z, pr_us1 z, Nat.add_mul, Nat.mul_add]
      apply Nat.add_le_add
      · have a := Nat.mul_le_mul_right (P n) ih
        rw [Nat.mul_assoc, Nat.mul_assoc] at a
        exact a
      · have a : d / P n * P n ≤ d := Nat.div_mul_le_self d (P n)
        have b := Nat.mul_le_mul_right (Q n * pr_pd P n) a
        have e : d / P n * Q n * (pr_pd P n * P n) = d / P n * P n * (Q n * pr_pd P n) := by
          rw [Nat.mul_comm (pr_pd P n) (P n), Nat.mul_assoc, Nat.mul_assoc, ← Nat.mul_assoc (Q n) (P n), Nat.mul_comm (Q n) (P n), Nat.mul_assoc (P n)]
        rw [e]
        exact b
theorem ps_bw {P Q : Nat → Nat} (h : pr_us P Q 4 ≤ pr_pd P 4) : ps_BW P Q := by
  intro d
  have a := ps_bwn (P := P) (Q := Q) (d := d) 4
  have b := Nat.le_trans a (Nat.mul_le_mul_left d h)
  exact Nat.le_of_mul_le_mul_right b (ps_pdpos 4)
/-! deadlines and remainders in naturals -/
theorem ps_dlN {n p : Nat} (hn : n ≤ 1000) (hp : 0 < p) (hp2 : p ≤ 64) : pr_dl (nI n) (nI p) = nI ((n / p + 1) * p) := by
  unfold pr_dl
  rw [pk_div (by omega) hp (by omega), nI_1, pk_mul]
theorem ps_dlB {n p : Nat} : (n / p + 1) * p ≤ n + p := by
  have a := Nat.div_mul_le_self n p
  rw [Nat.succ_mul]
  omega
theorem ps_rmN {n p : Nat} (hn : n ≤ 1000) (hp : 0 < p) (hp2 : p ≤ 64) : pr_rm (nI n) (nI p) = 0 ↔ n % p = 0 := by
  have e : pr_rm (nI n) (nI p) = nI (n % p) := pk_rem (by omega) hp (by omega)
  have m := Nat.mod_lt n hp
  rw [e]
  exact nI_eq (b := 0) (by omega) (by omega)
theorem ps_le0 {r : Nat} (hr : r < 2 ^ 31) : nI r ≤ 0 ↔ r = 0 := by
  have h : nI r ≤ nI 0 ↔ r ≤ 0 := nI_leI hr (by omega)
  constructor
  · intro z
    have := h.mp z
    omega
  · intro z
    exact h.mpr (by omega)
theorem ps_ne1 {j : Nat} (hj : j < 2 ^ 31) : ¬ nI j = -1 := by
  intro e
  have h5 := nI_pos (n := j) hj
  rw [e] at h5
  exact h5 (by decide)
/-! the component chosen -/
theorem ps_ch {n : Nat} {P l : Nat → Nat} (hn : n ≤ 1000) : ∀ N, N ≤ 4 → (∀ c, c < N → P c ≤ 64 ∧ l c < 2 ^ 31 ∧ sp c = nI (P c) ∧ le c = nI (l c)) →
    ((pr_ch (nI n) sp le N).1 = -1 ∧ ∀ c, c < N → 0 < P c → l c = 0) ∨
    ∃ j, j < N ∧ (pr_ch (nI n) sp le N).1 = nI j ∧ (pr_ch (nI n) sp le N).2 = nI ((n / P j + 1) * P j) ∧ 0 < P j ∧ 0 < l j ∧ ∀ c, c < N → 0 < P c → 0 < l c → (n / P j + 1) * P j ≤ (n / P c + 1) * P c := by
  intro N
  induction N with
  | zero => intro _ _; exact Or.inl ⟨rfl, fun c hc => absurd hc (by omega)⟩
  | succ N ih =>
    intro hN h
    obtain ⟨b1, b2, b3, b4⟩ := h N (by omega)
    have i1 := ih (by omega) (fun c hc => h c (by omega))
    have skip : (0 < P N → l N = 0) → pr_ch (nI n) sp le (N + 1) = pr_ch (nI n) sp le N → ((pr_ch (nI n) sp le (N + 1)).1 = -1 ∧ ∀ c, c < N + 1 → 0 < P c → l c = 0) ∨
        ∃ j, j < N + 1 ∧ (pr_ch (nI n) sp le (N + 1)).1 = nI j ∧ (pr_ch (nI n) sp le (N + 1)).2 = nI ((n / P j + 1) * P j) ∧ 0 < P j ∧ 0 < l j ∧ ∀ c, c < N + 1 → 0 < P c → 0 < l c → (n / P j + 1) * P j ≤ (n / P c + 1) * P c := by
      intro hz e
      rw [e]
      cases i1 with
      | inl i1 =>
        refine Or.inl ⟨i1.1, fun c hc hP => ?_⟩
        by_cases y : c = N
        · subst y; exact hz hP
        · exact i1.2 c (by omega) hP
      | inr i1 =>
        obtain ⟨j, j1, j2, j3, j4, j5, j6⟩ := i1
        refine Or.inr ⟨j, by omega, j2, j3, j4, j5, fun c hc hP hl => ?_⟩
        by_cases y : c = N
        · subst y
          have := hz hP
          omega
        · exact j6 c (by omega) hP hl
    by_cases z1 : P N = 0
    · refine skip (fun y => by omega) (if_pos ?_)
      rw [b3, z1]; rfl
    have n1 : ¬ sp N = 0 := by rw [b3]; exact nI_ne0 (by omega) (by omega)
    by_cases z2 : l N = 0
    · refine skip (fun _ => z2) ((if_neg n1).trans (if_pos ?_))
      rw [b4]; exact (ps_le0 b2).mpr z2
    have n2 : ¬ le N ≤ 0 := by rw [b4]; exact fun y => z2 ((ps_le0 b2).mp y)
    have dN : pr_dl (nI n) (sp N) = nI ((n / P N + 1) * P N) := by rw [b3]; exact ps_dlN hn (by omega) b1
    have bN := ps_dlB (n := n) (p := P N)
    cases i1 with
    | inl i1 =>
      have e : pr_ch (nI n) sp le (N + 1) = (nI N, pr_dl (nI n) (sp N)) := (if_neg n1).trans ((if_neg n2).trans (if_pos i1.1))
      rw [e]
      refine Or.inr ⟨N, by omega, rfl, dN, by omega, by omega, fun c hc hP hl => ?_⟩
      by_cases y : c = N
      · subst y; exact Nat.le_refl _
      · have := i1.2 c (by omega) hP
        omega
    | inr i1 =>
      obtain ⟨j, j1, j2, j3, j4, j5, j6⟩ := i1
      have n3 : ¬ (pr_ch (nI n) sp le N).1 = -1 := by rw [j2]; exact ps_ne1 (by omega)
      have bj := ps_dlB (n := n) (p := P j)
      have bP := (h j (by omega)).1
      by_cases z4 : (n / P j + 1) * P j ≤ (n / P N + 1) * P N
      · have e : pr_ch (nI n) sp le (N + 1) = pr_ch (nI n) sp le N := (if_neg n1).trans ((if_neg n2).trans ((if_neg n3).trans (if_pos (by rw [j3, dN]; exact (nI_leI (by omega) (by omega)).mpr z4))))
        rw [e]
        refine Or.inr ⟨j, by omega, j2, j3, j4, j5, fun c hc hP hl => ?_⟩
        by_cases y : c = N
        · subst y; exact z4
        · exact j6 c (by omega) hP hl
      · have e : pr_ch (nI n) sp le (N + 1) = (nI N, pr_dl (nI n) (sp N)) := (if_neg n1).trans ((if_neg n2).trans ((if_neg n3).trans (if_neg (by rw [j3, dN]; exact fun y => z4 ((nI_leI (by omega) (by omega)).mp y)))))
        rw [e]
        refine Or.inr ⟨N, by omega, rfl, dN, by omega, by omega, fun c hc hP hl => ?_⟩
        by_cases y : c = N
        · subst y; exact Nat.le_refl _
        · have := j6 c (by omega) hP hl
          omega
/-! the task served -/
theorem ps_selE {n b : Nat} {T r : Nat → Nat} (hn : n ≤ 1000) : ∀ N, (∀ i, i < N → 0 < T i ∧ T i ≤ 64 ∧ r i < 2 ^ 31 ∧ pe (b + i) = nI (T i) ∧ re (b + i) = nI (r i)) →
    ((pr_sel true (nI n) pe re b N).1 = none ∧ ∀ i, i < N → r i = 0) ∨
    ∃ j, j < N ∧ (pr_sel true (nI n) pe re b N).1 = some j ∧ (pr_sel true (nI n) pe re b N).2 = nI ((n / T j + 1) * T j) ∧ 0 < r j ∧ ∀ i, i < N → 0 < r i → (n / T j + 1) * T j ≤ (n / T i + 1) * T i := by
  intro N
  induction N with
  | zero => intro _; exact Or.inl ⟨rfl, fun c hc => absurd hc (by omega)⟩
  | succ N ih =>
    intro h
    obtain ⟨b0, b1, b2, b3, b4⟩ := h N (by omega)
    have i1 := ih (fun c hc => h c (by omega))
    have dN : pr_dl (nI n) (pe (b + N)) = nI ((n / T N + 1) * T N) := by rw [b3]; exact ps_dlN hn b0 b1
    have bN := ps_dlB (n := n) (p := T N)
    by_cases z2 : r N = 0
    · have e : pr_sel true (nI n) pe re b (N + 1) = pr_sel true (nI n) pe re b N := pr_sel0 (by rw [b4]; exact (ps_le0 b2).mpr z2)
      rw [e]
      cases i1 with
      | inl i1 =>
        refine Or.inl ⟨i1.1, fun c hc => ?_⟩
        by_cases y : c = N
        · subst y; exact z2
        · exact i1.2 c (by omega)
      | inr i1 =>
        obtain ⟨j, j1, j2, j3, j5, j6⟩ := i1
        refine Or.inr ⟨j, by omega, j2, j3, j5, fun c hc hl => ?_⟩
        by_cases y : c = N
        · subst y; omega
        · exact j6 c (by omega) hl
    have n2 : ¬ re (b + N) ≤ 0 := by rw [b4]; exact fun y => z2 ((ps_le0 b2).mp y)
    cases i1 with
    | inl i1 =>
      have e := pr_sel1 (edf := true) (nw := nI n) (pe := pe) n2 i1.1
      rw [e]
      refine Or.inr ⟨N, by omega, rfl, dN, by omega, fun c hc hl => ?_⟩
      by_cases y : c = N
      · subst y; exact Nat.le_refl _
      · have := i1.2 c (by omega)
        omega
    | inr i1 =>
      obtain ⟨j, j1, j2, j3, j5, j6⟩ := i1
      have bj := ps_dlB (n := n) (p := T j)
      have bT := (h j (by omega)).2.1
      have e := pr_sel2 (edf := true) (nw := nI n) (pe := pe) n2 j2
      rw [e]
      by_cases z4 : (n / T j + 1) * T j ≤ (n / T N + 1) * T N
      · rw [if_neg (fun y => y.2 (by rw [j3, dN]; exact (nI_leI (by omega) (by omega)).mpr z4))]
        refine Or.inr ⟨j, by omega, j2, j3, j5, fun c hc hl => ?_⟩
        by_cases y : c = N
        · subst y; exact z4
        · exact j6 c (by omega) hl
      · rw [if_pos ⟨rfl, by rw [j3, dN]; exact fun y => z4 ((nI_leI (by omega) (by omega)).mp y)⟩]
        refine Or.inr ⟨N, by omega, rfl, dN, by omega, fun c hc hl => ?_⟩
        by_cases y : c = N
        · subst y; exact Nat.le_refl _
        · have := j6 c (by omega) hl
          omega
theorem ps_selF {nw : Int32} {b : Nat} {r : Nat → Nat} : ∀ N, (∀ i, i < N → r i < 2 ^ 31 ∧ re (b + i) = nI (r i)) →
    ((pr_sel false nw pe re b N).1 = none ∧ ∀ i, i < N → r i = 0) ∨ ∃ j, j < N ∧ (pr_sel false nw pe re b N).1 = some j ∧ 0 < r j ∧ ∀ i, i < j → r i = 0 := by
  intro N
  induction N with
  | zero => intro _; exact Or.inl ⟨rfl, fun c hc => absurd hc (by omega)⟩
  | succ N ih =>
    intro h
    obtain ⟨b2, b4⟩ := h N (by omega)
    have i1 := ih (fun c hc => h c (by omega))
    by_cases z2 : r N = 0
    · have e : pr_sel false nw pe re b (N + 1) = pr_sel false nw pe re b N := pr_sel0 (by rw [b4]; exact (ps_le0 b2).mpr z2)
      rw [e]
      cases i1 with
      | inl i1 =>
        refine Or.inl ⟨i1.1, fun c hc => ?_⟩
        by_cases y : c = N
        · subst y; exact z2
        · exact i1.2 c (by omega)
      | inr i1 =>
        obtain ⟨j, j1, j2, j5, j6⟩ := i1
        exact Or.inr ⟨j, by omega, j2, j5, j6⟩
    have n2 : ¬ re (b + N) ≤ 0 := by rw [b4]; exact fun y => z2 ((ps_le0 b2).mp y)
    cases i1 with
    | inl i1 =>
      have e := pr_sel1 (edf := false) (nw := nw) (pe := pe) n2 i1.1
      rw [e]
      exact Or.inr ⟨N, by omega, rfl, by omega, i1.2⟩
    | inr i1 =>
      obtain ⟨j, j1, j2, j5, j6⟩ := i1
      have e := pr_sel2 (edf := false) (nw := nw) (pe := pe) n2 j2
      rw [e, if_neg (fun y => absurd y.1 (by decide))]
      exact Or.inr ⟨j, by omega, j2, j5, j6⟩
/-! jobs released, when none is late -/
def ps_R (nw : Int32) (pe wc re : Nat → Int32) : Nat → Int32 := fun j => if pr_rm nw (pe j) = 0 then wc j else re j
theorem ps_rsLow {g a : Nat → Int32} (hK : ∀ c, c < 4 → pr_K ct c ≤ 8) : ∀ n, n ≤ 4 → ∀ j, n * 8 ≤ j → pr_rsR g ct a n j = a j := by
  intro n
  induction n with
  | zero => intro _ j _; rfl
  | succ n ih =>
    intro hn j hj
    show (if n * 8 ≤ j ∧ j < n * 8 + pr_K ct n then g j else pr_rsR g ct a n j) = a j
    have k := hK n (by omega)
    rw [if_neg (by omega)]
    exact ih (by omega) j (by omega)
theorem ps_rsAt {g a : Nat → Int32} (hK : ∀ c, c < 4 → pr_K ct c ≤ 8) {c i : Nat} (hi : i < pr_K ct c) : ∀ n, n ≤ 4 → c < n → pr_rsR g ct a n (c * 8 + i) = g (c * 8 + i) := by
  intro n
  induction n with
  | zero => intro _ hc; omega
  | succ n ih =>
    intro hn hc
    show (if n * 8 ≤ c * 8 + i ∧ c * 8 + i < n * 8 + pr_K ct n then g (c * 8 + i) else pr_rsR g ct a n (c * 8 + i)) = g (c * 8 + i)
    by_cases e : c = n
    · subst e
      rw [if_pos (by omega)]
    · have k := hK c (by omega)
      rw [if_neg (by omega)]
      exact ih (by omega) (by omega)
theorem ps_rj {nw : Int32} {c b : Nat} {s : (Nat → Int32) × (Nat → Int32)} : ∀ k, (∀ i, i < k → s.2 (b + i) = re (b + i)) → (∀ i, i < k → pr_rm nw (pe (b + i)) = 0 → re (b + i) ≤ 0) →
    pr_rj nw pe wc c b s k = (s.1, pr_fill (ps_R nw pe wc re) s.2 b (b + k)) := by
  intro k
  induction k with
  | zero => intro _ _; show s = (s.1, pr_fill (ps_R nw pe wc re) s.2 b b); rw [pr_fill0]
  | succ k ih =>
    intro hs hm
    have i1 := ih (fun i hi => hs i (by omega)) (fun i hi => hm i (by omega))
    have e2 : (pr_rj nw pe wc c b s k).2 (b + k) = re (b + k) := by
      rw [i1]
      exact pr_fillA.trans (hs k (by omega))
    by_cases h : pr_rm nw (pe (b + k)) = 0
    · rw [pr_rj1 h (by rw [e2]; exact hm k (by omega) h), i1]
      have e3 : wc (b + k) = ps_R nw pe wc re (b + k) := (if_pos h).symm
      show (s.1, upd (pr_fill (ps_R nw pe wc re) s.2 b (b + k)) (b + k) (wc (b + k))) = (s.1, pr_fill (ps_R nw pe wc re) s.2 b (b + k + 1))
      rw [e3, pr_fillS (by omega)]
    · rw [pr_rj0 h, i1]
      have e3 : ps_R nw pe wc re (b + k) = s.2 (b + k) := (if_neg h).trans (hs k (by omega)).symm
      show (s.1, pr_fill (ps_R nw pe wc re) s.2 b (b + k)) = (s.1, pr_fill (ps_R nw pe wc re) s.2 b (b + k + 1))
      rw [pr_fillN e3]
theorem ps_rl {nw : Int32} (hK : ∀ c, c < 4 → pr_K ct c ≤ 8) (hm : ∀ c, c < 4 → ∀ i, i < pr_K ct c → pr_rm nw (pe (c * 8 + i)) = 0 → re (c * 8 + i) ≤ 0) : ∀ n, n ≤ 4 → pr_rl nw ct pe wc (mi, re) n = (mi, pr_rsR (ps_R nw pe wc re) ct re n) := by
  intro n
  induction n with
  | zero => intro _; rfl
  | succ n ih =>
    intro hn
    have i1 := ih (by omega)
    show pr_rj nw pe wc n (n * 8) (pr_rl nw ct pe wc (mi, re) n) (pr_K ct n) = _
    rw [i1, ps_rj (re := re) (pr_K ct n) (fun i hi => ps_rsLow hK n (by omega) _ (by omega)) (hm n (by omega))]
    rfl
end PS34
end
section
section PS35
variable {hz ad : Int32} {po ct sp sb pe wc re ex mi le : Nat → Int32} {P Q K : Nat → Nat} {T C : Nat → Nat → Nat} {H n : Nat}
/-! what stands between the calls -/
def ps_St (H : Nat) (po ct sp sb pe wc : Nat → Int32) (P Q K : Nat → Nat) (T C : Nat → Nat → Nat) : Prop := ∀ c, c < 4 →
  (po c = 0 ∨ po c = 1) ∧ (K c ≤ 8 ∧ ct c = nI (K c)) ∧ (∀ i, i < K c → 1 ≤ T c i ∧ T c i ≤ 64 ∧ C c i ≤ 64 ∧ pe (c * 8 + i) = nI (T c i) ∧ wc (c * 8 + i) = nI (C c i)) ∧
  (P c ≤ 32 ∧ Q c ≤ P c ∧ sp c = nI (P c) ∧ sb c = nI (Q c)) ∧
  (0 < P c → (po c = 0 → ps_covE (T c) (C c) (K c) (P c) (Q c) H) ∧ (po c = 1 → ps_covF (T c) (C c) (K c) (P c) (Q c)))
/-! what stands while it is let in, at time n, and after the unit of time n (m = n + 1) -/
def ps_Af (H n m : Nat) (po re le : Nat → Int32) (P Q K : Nat → Nat) (T C : Nat → Nat → Nat) (l : Nat → Nat) (r : Nat → Nat → Nat) : Prop := ps_S P Q l n m ∧ ∀ c, c < 4 →
  l c ≤ 32 ∧ le c = nI (l c) ∧ (∀ i, i < K c → r c i ≤ 64 ∧ re (c * 8 + i) = nI (r c i)) ∧
  (0 < P c → Q c ≤ l c + (m - n / P c * P c) ∧ (po c = 0 → ps_E (T c) (C c) (r c) (K c) (P c) (Q c) (l c) n m H) ∧ (po c = 1 → ps_F (T c) (C c) (r c) (K c) (P c) (Q c) (l c) n m))
def ps_Dy (H n : Nat) (po re le : Nat → Int32) (P Q K : Nat → Nat) (T C : Nat → Nat → Nat) : Prop :=
  (∀ c, c < 4 → 0 < K c → 0 < P c) ∧ ps_BW P Q ∧ ∃ (l : Nat → Nat) (r : Nat → Nat → Nat), ps_Af H n n po re le P Q K T C l r
theorem ps_StC (S : ps_St H po ct sp sb pe wc P Q K T C) : ∀ c, c < 4 → pr_C po ct sp sb pe c := by
  intro c hc
  obtain ⟨h1, ⟨h2, h3⟩, h4, ⟨h5, h6, h7, h8⟩, -⟩ := S c hc
  refine ⟨h1, ⟨K c, h2, h3, fun i hi => ?_⟩, ⟨P c, Q c, h5, h6, h7, h8⟩⟩
  obtain ⟨a, b, -, e, -⟩ := h4 i hi
  exact ⟨T c i, a, b, e⟩
theorem ps_StK (S : ps_St H po ct sp sb pe wc P Q K T C) : ∀ c, c < 4 → pr_K ct c = K c := by
  intro c hc
  obtain ⟨-, ⟨h2, h3⟩, -⟩ := S c hc
  exact pr_Ke h3 (by omega)
/-- the unit's end: time, budgets, jobs -/
theorem ps_tail {re1 le1 : Nat → Int32} {l1 : Nat → Nat} {r1 : Nat → Nat → Nat} (S : ps_St H po ct sp sb pe wc P Q K T C) (hH : H ≤ 256) (hn : n + 1 ≤ H) (hs : ∀ c, c < 4 → 0 < K c → 0 < P c) (hb : ps_BW P Q)
    (A : ps_Af H n (n + 1) po re1 le1 P Q K T C l1 r1) :
    pr_rl (nI (n + 1)) ct pe wc (mi, re1) 4 = (mi, pr_rsR (ps_R (nI (n + 1)) pe wc re1) ct re1 4) ∧
    ps_Dy H (n + 1) po (pr_rsR (ps_R (nI (n + 1)) pe wc re1) ct re1 4) (pr_fill (pr_rf (nI (n + 1)) sp sb le1) le1 0 4) P Q K T C := by
  obtain ⟨AS, A⟩ := A
  have hK : ∀ c, c < 4 → pr_K ct c ≤ 8 := by
    intro c hc
    rw [ps_StK S c hc]
    exact (S c hc).2.1.1
  have fit : ∀ c, c < 4 → 0 < P c → l1 c ≤ (n / P c + 1) * P c - (n + 1) := fun c hc hP => ps_fit AS hc hP (ps_up hP)
  refine ⟨ps_rl hK (fun c hc i hi hm => ?_) 4 (Nat.le_refl _), hs, hb, fun c => if (n + 1) % P c = 0 then Q c else l1 c, fun c i => if (n + 1) % T c i = 0 then C c i else r1 c i, ps_S2 AS (fun c _ h => if_pos h) (fun c _ h => if_neg h), fun c hc => ?_⟩
  · rw [ps_StK S c hc] at hi
    obtain ⟨h1, -, h4, -, -⟩ := S c hc
    obtain ⟨-, -, a3, a4⟩ := A c hc
    obtain ⟨t1, t2, t3, t4, t5⟩ := h4 i hi
    obtain ⟨r1b, r1e⟩ := a3 i hi
    have hP := hs c hc (by omega)
    obtain ⟨-, aE, aF⟩ := a4 hP
    rw [t4] at hm
    have hm' := (ps_rmN (by omega) (by omega) t2).mp hm
    have z : r1 c i = 0 := by
      cases h1 with
      | inl h => exact ps_Em hP (aE h) (fit c hc hP) hn hi hm'
      | inr h => exact ps_Fm (aF h) hi hm'
    rw [r1e]
    exact (ps_le0 (by omega)).mpr z
  · obtain ⟨h1, ⟨h2, h3⟩, h4, ⟨h5, h6, h7, h8⟩, h9⟩ := S c hc
    obtain ⟨a1, a2, a3, a4⟩ := A c hc
    refine ⟨?_, ?_, fun i hi => ?_, fun hP => ?_⟩
    · show (if (n + 1) % P c = 0 then Q c else l1 c) ≤ 32
      by_cases z : (n + 1) % P c = 0
      · rw [if_pos z]; omega
      · rw [if_neg z]; exact a1
    · show (if 0 ≤ c ∧ c < 4 then pr_rf (nI (n + 1)) sp sb le1 c else le1 c) = nI (if (n + 1) % P c = 0 then Q c else l1 c)
      rw [if_pos ⟨Nat.zero_le _, hc⟩]
      show (if sp c = 0 then le1 c else if pr_rm (nI (n + 1)) (sp c) = 0 then sb c else le1 c) = _
      by_cases y : P c = 0
      · rw [if_pos (by rw [h7, y]; rfl), y, Nat.mod_zero, if_neg (by omega)]; exact a2
      · rw [if_neg (by rw [h7]; exact nI_ne0 (by omega) (by omega)), h7]
        by_cases z : (n + 1) % P c = 0
        · rw [if_pos z, if_pos ((ps_rmN (by omega) (by omega) (by omega)).mpr z)]; exact h8
        · rw [if_neg z, if_neg (fun w => z ((ps_rmN (by omega) (by omega) (by omega)).mp w))]; exact a2
    · obtain ⟨t1, t2, t3, t4, t5⟩ := h4 i hi
      obtain ⟨r1b, r1e⟩ := a3 i hi
      rw [ps_rsAt hK (by rw [ps_StK S c hc]; exact hi) 4 (Nat.le_refl _) hc]
      show (if (n + 1) % T c i = 0 then C c i else r1 c i) ≤ 64 ∧ (if pr_rm (nI (n + 1)) (pe (c * 8 + i)) = 0 then wc (c * 8 + i) else re1 (c * 8 + i)) = nI (if (n + 1) % T c i = 0 then C c i else r1 c i)
      rw [t4]
      by_cases z : (n + 1) % T c i = 0
      · rw [if_pos z, if_pos ((ps_rmN (by omega) (by omega) (by omega)).mpr z)]; exact ⟨t3, t5⟩
      · rw [if_neg z, if_neg (fun w => z ((ps_rmN (by omega) (by omega) (by omega)).mp w))]; exact ⟨r1b, r1e⟩
    · obtain ⟨aA, aE, aF⟩ := a4 hP
      have hf := fit c hc hP
      have L1 : (n + 1) % P c = 0 → (if (n + 1) % P c = 0 then Q c else l1 c) = Q c := fun h => if_pos h
      have L2 : ¬ (n + 1) % P c = 0 → (if (n + 1) % P c = 0 then Q c else l1 c) = l1 c := fun h => if_neg h
      have R1 : ∀ i, i < K c → (n + 1) % T c i = 0 → (if (n + 1) % T c i = 0 then C c i else r1 c i) = C c i := fun i _ h => if_pos h
      have R2 : ∀ i, i < K c → ¬ (n + 1) % T c i = 0 → (if (n + 1) % T c i = 0 then C c i else r1 c i) = r1 c i := fun i _ h => if_neg h
      have g := ps_age2 aA L1 L2
      exact ⟨g, fun h => ps_E2 hP h6 (aE h) hf L1 L2 R1 R2, fun h => ps_F2 (fun i hi => (h4 i hi).1) hP h6 ((h9 hP).2 h) (aF h) hf g L1 L2 R1 R2⟩
/-- the unit itself: given to no one -/
theorem ps_none {l : Nat → Nat} {r : Nat → Nat → Nat} (S : ps_St H po ct sp sb pe wc P Q K T C) (hb : ps_BW P Q) (A : ps_Af H n n po re le P Q K T C l r) (hz : ∀ c, c < 4 → 0 < P c → l c = 0) : ps_Af H n (n + 1) po re le P Q K T C l r := by
  obtain ⟨AS, A⟩ := A
  have S1 : ps_S P Q l n (n + 1) := ps_S1 hb AS (Or.inl ⟨hz, rfl⟩)
  refine ⟨S1, fun c hc => ?_⟩
  obtain ⟨a1, a2, a3, a4⟩ := A c hc
  refine ⟨a1, a2, a3, fun hP => ?_⟩
  obtain ⟨aA, aE, aF⟩ := a4 hP
  exact ⟨by omega, fun h => ps_E1n (aE h), fun h => ps_Fn hP (ps_fit S1 hc hP (ps_up hP)) (aF h)⟩
/-- .. to component j, whose task o is served -/
theorem ps_some {l : Nat → Nat} {r : Nat → Nat → Nat} {j : Nat} (S : ps_St H po ct sp sb pe wc P Q K T C) (hH : H ≤ 256) (hn : n + 1 ≤ H) (hb : ps_BW P Q) (A : ps_Af H n n po re le P Q K T C l r)
    (hj : j < 4) (hPj : 0 < P j) (hlj : 0 < l j) (hd : ∀ c, c < 4 → 0 < P c → 0 < l c → (n / P j + 1) * P j ≤ (n / P c + 1) * P c) :
    ∃ (l1 : Nat → Nat) (r1 : Nat → Nat → Nat), ps_Af H n (n + 1) po (pr_svR (j * 8) re (pr_sel (decide (po j = 0)) (nI n) pe re (j * 8) (K j)).1) (upd le j (le j - 1)) P Q K T C l1 r1 := by
  obtain ⟨AS, A⟩ := A
  obtain ⟨m, hm⟩ : ∃ m, l j = m + 1 := ⟨l j - 1, by omega⟩
  obtain ⟨g1, ⟨g2, g3⟩, g4, ⟨g5, g6, g7, g8⟩, g9⟩ := S j hj
  obtain ⟨b1, b2, b3, b4⟩ := A j hj
  obtain ⟨bA, bE, bF⟩ := b4 hPj
  -- the rests of component j afterwards
  have hsel : ∃ q : Nat → Nat, (∀ i, i < K j → q i ≤ 64 ∧ pr_svR (j * 8) re (pr_sel (decide (po j = 0)) (nI n) pe re (j * 8) (K j)).1 (j * 8 + i) = nI (q i)) ∧
      (∀ x, (x < j * 8 ∨ j * 8 + 8 ≤ x) → pr_svR (j * 8) re (pr_sel (decide (po j = 0)) (nI n) pe re (j * 8) (K j)).1 x = re x) ∧ (po j = 0 → ps_pick (K j) (T j) (r j) q n) ∧ (po j = 1 → ps_first (K j) (r j) q) := by
    have one : ∀ (o : Option Nat), ((o = none ∧ ∀ i, i < K j → r j i = 0) ∨ ∃ w, w < K j ∧ o = some w ∧ 0 < r j w) →
        ∃ q : Nat → Nat, (∀ i, i < K j → q i ≤ 64 ∧ pr_svR (j * 8) re o (j * 8 + i) = nI (q i)) ∧ (∀ x, (x < j * 8 ∨ j * 8 + 8 ≤ x) → pr_svR (j * 8) re o x = re x) ∧ (o = none → q = r j) ∧ (∀ w, o = some w → q w + 1 = r j w ∧ ∀ i, i ≠ w → q i = r j i) := by
      intro o ho
      cases ho with
      | inl ho =>
        obtain ⟨rfl, h0⟩ := ho
        exact ⟨r j, b3, fun x _ => rfl, fun _ => rfl, fun w e => by cases e⟩
      | inr ho =>
        obtain ⟨w, hw, rfl, h0⟩ := ho
        obtain ⟨v, hv⟩ : ∃ v, r j w = v + 1 := ⟨r j w - 1, by omega⟩
        refine ⟨fun i => if i = w then v else r j i, fun i hi => ?_, fun x hx => pk_un (by omega), (fun e => by cases e), fun w' e => ?_⟩
        · obtain ⟨c1, c2⟩ := b3 i hi
          show (if i = w then v else r j i) ≤ 64 ∧ upd re (j * 8 + w) (re (j * 8 + w) - 1) (j * 8 + i) = nI (if i = w then v else r j i)
          by_cases e : i = w
          · subst e
            rw [if_pos rfl, pk_us, c2, hv, nI_pred]
            exact ⟨by omega, rfl⟩
          · rw [if_neg e, pk_un (by omega)]
            exact ⟨c1, c2⟩
        · cases e
          refine ⟨?_, fun i hi => if_neg hi⟩
          show (if w = w then v else r j w) + 1 = r j w
          rw [if_pos rfl, hv]
    cases g1 with
    | inl h =>
      rw [decide_eq_true h]
      cases ps_selE (b := j * 8) (T := T j) (r := r j) (pe := pe) (re := re) (n := n) (by omega) (K j) (fun i hi => ⟨(g4 i hi).1, (g4 i hi).2.1, by have := (b3 i hi).1; omega, (g4 i hi).2.2.2.1, (b3 i hi).2⟩) with
      | inl s =>
        obtain ⟨q, q1, q2, q3, q4⟩ := one _ (Or.inl s)
        exact ⟨q, q1, q2, fun _ => Or.inl ⟨fun i hi _ => s.2 i hi, q3 s.1⟩, fun y => absurd (h.symm.trans y) (by decide)⟩
      | inr s =>
        obtain ⟨w, w1, w2, w3, w4, w5⟩ := s
        obtain ⟨q, q1, q2, q3, q4⟩ := one _ (Or.inr ⟨w, w1, w2, w4⟩)
        obtain ⟨q5, q6⟩ := q4 w w2
        exact ⟨q, q1, q2, fun _ => Or.inr ⟨w, w1, (g4 w w1).1, q5, q6, fun i hi _ hr => w5 i hi hr⟩, fun y => absurd (h.symm.trans y) (by decide)⟩
    | inr h =>
      rw [decide_eq_false (by rw [h]; decide)]
      cases ps_selF (b := j * 8) (r := r j) (pe := pe) (re := re) (nw := nI n) (K j) (fun i hi => ⟨by have := (b3 i hi).1; omega, (b3 i hi).2⟩) with
      | inl s =>
        obtain ⟨q, q1, q2, q3, q4⟩ := one _ (Or.inl s)
        exact ⟨q, q1, q2, fun y => absurd (y.symm.trans h) (by decide), fun _ => Or.inl ⟨s.2, q3 s.1⟩⟩
      | inr s =>
        obtain ⟨w, w1, w2, w4, w5⟩ := s
        obtain ⟨q, q1, q2, q3, q4⟩ := one _ (Or.inr ⟨w, w1, w2, w4⟩)
        obtain ⟨q5, q6⟩ := q4 w w2
        exact ⟨q, q1, q2, fun y => absurd (y.symm.trans h) (by decide), fun _ => Or.inr ⟨w, w1, q5, q6, w5⟩⟩
  obtain ⟨q, q1, q2, q3, q4⟩ := hsel
  have pick : ps_pick 4 P l (fun c => if c = j then m else l c) n := by
    refine Or.inr ⟨j, hj, hPj, ?_, fun c hc => if_neg hc, hd⟩
    show (if j = j then m else l j) + 1 = l j
    rw [if_pos rfl, hm]
  have S1 := ps_S1 hb AS pick
  refine ⟨fun c => if c = j then m else l c, fun c => if c = j then q else r c, S1, fun c hc => ?_⟩
  by_cases e : c = j
  · subst e
    have f := ps_fit S1 hc hPj (ps_up hPj)
    rw [if_pos rfl] at f
    dsimp only
    rw [if_pos rfl, if_pos rfl]
    refine ⟨by omega, ?_, q1, fun _ => ⟨?_, fun h => ?_, fun h => ?_⟩⟩
    · rw [pk_us, b2, hm, nI_pred]
    · exact ps_age1 (l := l c) bA (by omega)
    · have bE' := bE h
      rw [hm] at bE' bA
      exact ps_E1 hPj g6 ((g9 hPj).1 h) bE' bA (q3 h)
    · have bF' := bF h
      rw [hm] at bF'
      exact ps_Fs hPj f bF' (q4 h)
  · have f := fun hP => ps_fit S1 hc hP (ps_up hP)
    rw [if_neg e] at f
    dsimp only
    rw [if_neg e, if_neg e]
    obtain ⟨a1, a2, a3, a4⟩ := A c hc
    refine ⟨a1, by rw [pk_un e]; exact a2, fun i hi => ?_, fun hP => ?_⟩
    · rw [q2 (c * 8 + i) (by have := (S c hc).2.1.1; omega)]
      exact a3 i hi
    · obtain ⟨aA, aE, aF⟩ := a4 hP
      exact ⟨by omega, fun h => ps_E1n (aE h), fun h => ps_Fn hP (f hP) (aF h)⟩
/-- the state at an admission, everything reset -/
theorem ps_start (S : ps_St H po ct sp sb pe wc P Q K T C) (hs : ∀ c, c < 4 → 0 < K c → 0 < P c) (hb : ps_BW P Q) :
    ps_Dy H 0 po (pr_rsR wc ct re 4) (pr_fill (pr_rsL sp sb) le 0 4) P Q K T C := by
  have hK : ∀ c, c < 4 → pr_K ct c ≤ 8 := by
    intro c hc
    rw [ps_StK S c hc]
    exact (S c hc).2.1.1
  refine ⟨hs, hb, Q, C, ps_S0 hb, fun c hc => ?_⟩
  obtain ⟨h1, ⟨h2, h3⟩, h4, ⟨h5, h6, h7, h8⟩, h9⟩ := S c hc
  refine ⟨by omega, ?_, fun i hi => ?_, fun hP => ?_⟩
  · show (if 0 ≤ c ∧ c < 4 then pr_rsL sp sb c else le c) = nI (Q c)
    rw [if_pos ⟨Nat.zero_le _, hc⟩]
    show (if sp c = 0 then 0 else sb c) = nI (Q c)
    by_cases y : P c = 0
    · rw [if_pos (by rw [h7, y]; rfl), show Q c = 0 from by omega]; rfl
    · rw [if_neg (by rw [h7]; exact nI_ne0 (by omega) (by omega))]; exact h8
  · rw [ps_rsAt hK (by rw [ps_StK S c hc]; exact hi) 4 (Nat.le_refl _) hc]
    exact ⟨(h4 i hi).2.2.1, (h4 i hi).2.2.2.2⟩
  · have ag : ps_age (P c) (Q c) (Q c) 0 := Nat.le_add_right _ _
    refine ⟨ag, fun h => ps_E0 hP h6 ((h9 hP).1 h), fun h j hj => ps_Fnew (fun i hi => (h4 i hi).1) hP h6 ((h9 hP).2 h) ag hj (fun i hi => Or.inl ⟨Nat.zero_mod _, rfl⟩)⟩
end PS35
end
section
section PS36
variable {po pe wc : Nat → Int32}
/-! searches read back -/
theorem ps_allT {f : Nat → Bool} : ∀ d i, pr_all f i d = true → ∀ t, i ≤ t → t < i + d → f t = true := by
  intro d
  induction d with
  | zero => intro i _ t h1 h2; omega
  | succ d ih =>
    intro i h t h1 h2
    cases e : f i with
    | false => rw [pr_all_f e] at h; cases h
    | true =>
      rw [pr_all_t e] at h
      by_cases z : t = i
      · rw [z]; exact e
      · exact ih (i + 1) h t (by omega) (by omega)
theorem ps_anyT {f : Nat → Bool} : ∀ d i, pr_any f i d = true → ∃ t, i ≤ t ∧ t < i + d ∧ f t = true := by
  intro d
  induction d with
  | zero => intro i h; cases h
  | succ d ih =>
    intro i h
    cases e : f i with
    | true => exact ⟨i, by omega, by omega, e⟩
    | false =>
      rw [pr_any_f e] at h
      obtain ⟨t, h1, h2, h3⟩ := ih (i + 1) h
      exact ⟨t, by omega, by omega, h3⟩
theorem ps_lsS {f : Nat → Bool} {q : Nat} : ∀ d i, pr_ls f i d = some q → f q = true ∧ ∀ x, i ≤ x → x < q → f x = false := by
  intro d
  induction d with
  | zero => intro i h; cases h
  | succ d ih =>
    intro i h
    cases e : f i with
    | true =>
      rw [pr_ls_t e] at h
      cases h
      exact ⟨e, fun x h1 h2 => absurd h2 (by omega)⟩
    | false =>
      rw [pr_ls_f e] at h
      obtain ⟨h1, h2⟩ := ih (i + 1) h
      refine ⟨h1, fun x h3 h4 => ?_⟩
      by_cases z : x = i
      · rw [z]; exact e
      · exact h2 x (by omega) h4
theorem ps_lsN {f : Nat → Bool} : ∀ d i, pr_ls f i d = none → ∀ x, i ≤ x → x < i + d → f x = false := by
  intro d
  induction d with
  | zero => intro i _ x h1 h2; omega
  | succ d ih =>
    intro i h x h1 h2
    cases e : f i with
    | true => rw [pr_ls_t e] at h; cases h
    | false =>
      rw [pr_ls_f e] at h
      by_cases z : x = i
      · rw [z]; exact e
      · exact ih (i + 1) h x (by omega) (by omega)
/-! demand and request in naturals -/
theorem ps_dm {T C : Nat → Nat} {b t : Nat} (ht : t ≤ 1000) : ∀ k, (∀ i, i < k → 1 ≤ T i ∧ T i ≤ 64 ∧ pe (b + i) = nI (T i) ∧ wc (b + i) = nI (C i)) → pr_dm pe wc (nI t) b k = nI (ps_sum (fun i => t / T i * C i) k) := by
  intro k
  induction k with
  | zero => intro _; rfl
  | succ k ih =>
    intro h
    obtain ⟨h1, h2, h3, h4⟩ := h k (by omega)
    show pr_dm pe wc (nI t) b k + nI t / pe (b + k) * wc (b + k) = _
    rw [ih (fun i hi => h i (by omega)), h3, h4, pk_div (by omega) h1 (by omega), pk_mul, nI_add]
    rfl
theorem ps_rq {T C : Nat → Nat} {b t : Nat} (ht : t ≤ 1000) : ∀ k, (∀ i, i < k → 1 ≤ T i ∧ T i ≤ 64 ∧ pe (b + i) = nI (T i) ∧ wc (b + i) = nI (C i)) → pr_rq pe wc (nI t) b k = nI (ps_sum (fun i => (t + T i - 1) / T i * C i) k) := by
  intro k
  induction k with
  | zero => intro _; rfl
  | succ k ih =>
    intro h
    obtain ⟨h1, h2, h3, h4⟩ := h k (by omega)
    have e : nI t + nI (T k) - 1 = nI (t + T k - 1) := by
      obtain ⟨m, hm⟩ : ∃ m, T k = m + 1 := ⟨T k - 1, by omega⟩
      rw [nI_add, hm]
      exact nI_pred (t + m)
    show pr_rq pe wc (nI t) b k + (nI t + pe (b + k) - 1) / pe (b + k) * wc (b + k) = _
    rw [ih (fun i hi => h i (by omega)), h3, h4, e, pk_div (by omega) h1 (by omega), pk_mul, nI_add]
    rfl
theorem ps_sumB {f : Nat → Nat} {M : Nat} : ∀ k, (∀ i, i < k → f i ≤ M) → ps_sum f k ≤ k * M := by
  intro k
  induction k with
  | zero => intro _; exact Nat.zero_le _
  | succ k ih =>
    intro h
    have a := ih (fun i hi => h i (by omega))
    have b := h k (by omega)
    rw [ps_sumS, Nat.succ_mul]
    omega
theorem ps_mB {a d M C : Nat} (ha : a ≤ M) (hC : C ≤ 64) : a / d * C ≤ M * 64 :=
  Nat.mul_le_mul (Nat.le_trans (Nat.div_le_self _ _) ha) hC
/-! covering read back -/
theorem ps_cvE {T C : Nat → Nat} {Hn c k p q : Nat} (hH : Hn ≤ 256) (hk : k ≤ 8) (hq : q ≤ p) (h : ∀ i, i < k → 1 ≤ T i ∧ T i ≤ 64 ∧ C i ≤ 64 ∧ pe (c * 8 + i) = nI (T i) ∧ wc (c * 8 + i) = nI (C i))
    (hp : po c = 0) (hc : pr_cv po pe wc Hn c k p q = true) : ps_covE T C k p q Hn := by
  have e : pr_cv po pe wc Hn c k p q = pr_all (pr_fD pe wc c k p q) 1 Hn := if_neg (by rw [hp]; decide)
  rw [e] at hc
  intro t h1 h2
  have a : pr_dm pe wc (nI t) (c * 8) k ≤ nI (pr_sb p q t) := of_decide_eq_true (ps_allT _ _ hc t h1 (by omega))
  rw [ps_dm (T := T) (C := C) (by omega) k (fun i hi => ⟨(h i hi).1, (h i hi).2.1, (h i hi).2.2.2⟩)] at a
  have b : ps_sum (fun i => t / T i * C i) k ≤ k * (256 * 64) := ps_sumB k (fun i hi => ps_mB (by omega) (h i hi).2.2.1)
  have d : k * (256 * 64) ≤ 8 * (256 * 64) := Nat.mul_le_mul_right _ hk
  have s : pr_sb p q t ≤ t := pr_sb_le hq
  exact (nI_leI (by omega) (by omega)).mp a
theorem ps_cvF {T C : Nat → Nat} {Hn c k p q : Nat} (hk : k ≤ 8) (hq : q ≤ p) (h : ∀ i, i < k → 1 ≤ T i ∧ T i ≤ 64 ∧ C i ≤ 64 ∧ pe (c * 8 + i) = nI (T i) ∧ wc (c * 8 + i) = nI (C i))
    (hp : po c = 1) (hc : pr_cv po pe wc Hn c k p q = true) : ps_covF T C k p q := by
  have e : pr_cv po pe wc Hn c k p q = pr_all (pr_fF pe wc c p q) 0 k := if_pos hp
  rw [e] at hc
  intro j hj
  obtain ⟨j1, j2, j3, j4, j5⟩ := h j hj
  have a : pr_any (pr_fT pe wc c p q j) 1 (pr_K pe (c * 8 + j)) = true := ps_allT _ _ hc j (Nat.zero_le _) (by omega)
  rw [pr_Ke j4 (by omega)] at a
  obtain ⟨t, t1, t2, t3⟩ := ps_anyT _ _ a
  have g : ¬ nI (pr_sb p q t) < pr_rq pe wc (nI t) (c * 8) (j + 1) := of_decide_eq_true t3
  rw [ps_rq (T := T) (C := C) (by omega) (j + 1) (fun i hi => ⟨(h i (by omega)).1, (h i (by omega)).2.1, (h i (by omega)).2.2.2⟩)] at g
  have b : ps_sum (fun i => (t + T i - 1) / T i * C i) (j + 1) ≤ (j + 1) * (1000 * 64) := ps_sumB (j + 1) (fun i hi => ps_mB (by have := (h i (by omega)).2.1; omega) (h i (by omega)).2.2.1)
  have d : (j + 1) * (1000 * 64) ≤ 8 * (1000 * 64) := Nat.mul_le_mul_right _ (by omega)
  have s : pr_sb p q t ≤ t := pr_sb_le hq
  rw [nI_ltI (by omega) (by omega)] at g
  exact ⟨t, t1, by omega, by omega⟩
end PS36
section PS37
variable {hz ad : Int32} {po ct sp sb pe wc mi : Nat → Int32} {P Q K : Nat → Nat} {T C : Nat → Nat → Nat} {H : Nat}
/-! the program's unit and its run -/
theorem ps_xunit {n : Nat} {re ex le : Nat → Int32} {post : St2 → Prop} (S : ps_St H po ct sp sb pe wc P Q K T C) (D : ps_Dy H n po re le P Q K T C) (hH : H ≤ 256) (hn : n + 1 ≤ H)
    (Hp : ∀ re' ex' le', ps_Dy H (n + 1) po re' le' P Q K T C → post (hz, nI (n + 1), ad, po, ct, sp, sb, pe, wc, re', ex', mi, le')) :
    wpX_simulateUnit post (hz, nI n, ad, po, ct, sp, sb, pe, wc, re, ex, mi, le) := by
  obtain ⟨hs, hb, l, r, A⟩ := D
  have AA := A.2
  have I := ps_StC S
  unfold wpX_simulateUnit
  refine pr_xch ?_
  cases ps_ch (n := n) (P := P) (l := l) (sp := sp) (le := le) (by omega) 4 (Nat.le_refl _) (fun c hc => ⟨by have := (S c hc).2.2.2.1.1; omega, by have := (AA c hc).1; omega, (S c hc).2.2.2.1.2.2.1, (AA c hc).2.1⟩) with
  | inl h =>
    obtain ⟨e, D1⟩ := ps_tail (mi := mi) S hH hn hs hb (ps_none S hb A h.2)
    rw [h.1]
    refine br_t rfl (pr_xtail I ?_)
    rw [nI_1, e]
    exact Hp _ _ _ D1
  | inr h =>
    obtain ⟨j, j1, j2, j3, j4, j5, j6⟩ := h
    have hcl : (nI j).toNatClampNeg = j := nI_clamp (by omega)
    obtain ⟨l1, r1, A1⟩ := ps_some S hH hn hb A j1 j4 j5 j6
    obtain ⟨e, D1⟩ := ps_tail (mi := mi) S hH hn hs hb A1
    obtain ⟨g1, ⟨g2, g3⟩, g4, -, -⟩ := S j j1
    rw [j2]
    refine br_f (ps_ne1 (by omega)) ⟨pr_i4 j1, pr_i4 j1, nm_r (e' := upd le j (le j - 1)) (by rw [hcl]) ?_⟩
    refine pr_xserve j1 g2 g1 g3 (fun i hi => ?_) ?_
    · rw [(g4 i hi).2.2.2.1]
      exact nI_ne0 (g4 i hi).1 (by have := (g4 i hi).2.1; omega)
    refine pr_xtail I ?_
    rw [nI_1, e]
    exact Hp _ _ _ D1
theorem ps_xrun {m : Nat} {post : Int32 → St2 → Prop} (S : ps_St H po ct sp sb pe wc P Q K T C) (hH : H ≤ 256) (hm : m < 2 ^ 31) : ∀ d i n, i + d = m → n + d ≤ H → ∀ re ex le : Nat → Int32, ps_Dy H n po re le P Q K T C →
    (∀ re' ex' le', ps_Dy H (n + d) po re' le' P Q K T C → post (nI m) (hz, nI (n + d), ad, po, ct, sp, sb, pe, wc, re', ex', mi, le')) → wX_run_38 post (nI m) (d + 1) (nI i) hz (nI n) ad po ct sp sb pe wc re ex mi le := by
  intro d
  induction d with
  | zero =>
    intro i n hi hn re ex le D Hp
    exact pk_le m i (fun _ => Hp _ _ _ D) (fun z => absurd z (by omega))
  | succ d ih =>
    intro i n hi hn re ex le D Hp
    refine pk_le m i (fun z => absurd z (by omega)) (fun _ => ps_xunit S D hH (by omega) (fun re' ex' le' D' => ?_))
    refine nm_r (e' := nI (i + 1)) (nI_1 _) (ih (i + 1) (n + 1) (by omega) (by omega) re' ex' le' D' ?_)
    rw [show n + 1 + d = n + (d + 1) from by omega]
    exact Hp
end PS37
end
section
section PS38
variable {po ct sp sb pe wc : Nat → Int32} {P Q K : Nat → Nat} {T C : Nat → Nat → Nat} {H : Nat}
/-! one component's tasks, policy and interface are set -/
theorem ps_set {po' ct' pe' wc' : Nat → Int32} {c0 K0 p q : Nat} {T0 C0 : Nat → Nat} (S : ps_St H po ct sp sb pe wc P Q K T C) (hpo : po' c0 = 0 ∨ po' c0 = 1) (hK : K0 ≤ 8) (hct : ct' c0 = nI K0)
    (ht : ∀ i, i < K0 → 1 ≤ T0 i ∧ T0 i ≤ 64 ∧ C0 i ≤ 64 ∧ pe' (c0 * 8 + i) = nI (T0 i) ∧ wc' (c0 * 8 + i) = nI (C0 i)) (ho : ∀ c, c ≠ c0 → po' c = po c ∧ ct' c = ct c) (hx : ∀ x, (x < c0 * 8 ∨ c0 * 8 + 8 ≤ x) → pe' x = pe x ∧ wc' x = wc x)
    (hp : p ≤ 32) (hq : q ≤ p) (hcv : 0 < p → (po' c0 = 0 → ps_covE T0 C0 K0 p q H) ∧ (po' c0 = 1 → ps_covF T0 C0 K0 p q)) :
    ps_St H po' ct' (upd sp c0 (nI p)) (upd sb c0 (nI q)) pe' wc' (fun c => if c = c0 then p else P c) (fun c => if c = c0 then q else Q c) (fun c => if c = c0 then K0 else K c) (fun c => if c = c0 then T0 else T c) (fun c => if c = c0 then C0 else C c) := by
  intro c hc
  by_cases e : c = c0
  · subst e
    dsimp only
    rw [if_pos rfl, if_pos rfl, if_pos rfl, if_pos rfl, if_pos rfl, pk_us, pk_us]
    exact ⟨hpo, ⟨hK, hct⟩, ht, ⟨hp, hq, rfl, rfl⟩, hcv⟩
  · dsimp only
    rw [if_neg e, if_neg e, if_neg e, if_neg e, if_neg e, pk_un e, pk_un e, (ho c e).1, (ho c e).2]
    obtain ⟨h1, h2, h3, h4, h5⟩ := S c hc
    refine ⟨h1, h2, fun i hi => ?_, h4, h5⟩
    have a := hx (c * 8 + i) (by omega)
    rw [a.1, a.2]
    exact h3 i hi
def ps_Any (H : Nat) (po ct sp sb pe wc : Nat → Int32) : Prop := ∃ (P Q K : Nat → Nat) (T C : Nat → Nat → Nat), ps_St H po ct sp sb pe wc P Q K T C
theorem ps_any0 : ps_Any H (fun _ => 0) (fun _ => 0) (fun _ => 0) (fun _ => 0) (fun _ => 0) (fun _ => 0) :=
  ⟨fun _ => 0, fun _ => 0, fun _ => 0, fun _ _ => 0, fun _ _ => 0, fun c _ => ⟨Or.inl rfl, ⟨Nat.zero_le _, rfl⟩, fun i hi => absurd hi (Nat.not_lt_zero i), ⟨Nat.zero_le _, Nat.le_refl _, rfl, rfl⟩, fun z => absurd z (Nat.lt_irrefl 0)⟩⟩
theorem ps_anyPol {c0 : Nat} {x : Int32} (h0 : c0 < 4) (hx : x = 0 ∨ x = 1) (A : ps_Any H po ct sp sb pe wc) : ps_Any H (upd po c0 x) ct (upd sp c0 0) (upd sb c0 0) pe wc := by
  obtain ⟨P, Q, K, T, C, S⟩ := A
  obtain ⟨h1, ⟨h2, h3⟩, h4, -, -⟩ := S c0 h0
  exact ⟨_, _, _, _, _, ps_set (p := 0) (q := 0) S (by rw [pk_us]; exact hx) h2 h3 h4 (fun c hc => ⟨pk_un hc, rfl⟩) (fun x _ => ⟨rfl, rfl⟩) (by omega) (by omega) (fun z => absurd z (by omega))⟩
theorem ps_anyAdd {c0 k p w : Nat} (h0 : c0 < 4) (hk : k < 8) (hct : ct c0 = nI k) (hp : 1 ≤ p) (hp2 : p ≤ 64) (hw : w ≤ 64) (A : ps_Any H po ct sp sb pe wc) :
    ps_Any H po (upd ct c0 (nI (k + 1))) (upd sp c0 0) (upd sb c0 0) (upd pe (c0 * 8 + k) (nI p)) (upd wc (c0 * 8 + k) (nI w)) := by
  obtain ⟨P, Q, K, T, C, S⟩ := A
  obtain ⟨h1, ⟨h2, h3⟩, h4, -, -⟩ := S c0 h0
  have ek : K c0 = k := (nI_eq (by omega) (by omega)).mp (h3.symm.trans hct)
  refine ⟨_, _, _, _, _, ps_set (p := 0) (q := 0) (K0 := k + 1) (T0 := fun i => if i = k then p else T c0 i) (C0 := fun i => if i = k then w else C c0 i) S h1 (by omega) pk_us (fun i hi => ?_) (fun c hc => ⟨rfl, pk_un hc⟩) (fun x hx => ⟨pk_un (by omega), pk_un (by omega)⟩) (by omega) (by omega) (fun z => absurd z (by omega))⟩
  by_cases e : i = k
  · subst e
    rw [if_pos rfl, if_pos rfl, pk_us, pk_us]
    exact ⟨hp, hp2, hw, rfl, rfl⟩
  · rw [if_neg e, if_neg e, pk_un (by omega), pk_un (by omega)]
    exact h4 i (by omega)
theorem ps_anySub {c0 k : Nat} (h0 : c0 < 4) (hct : ct c0 = nI (k + 1)) (hk : k < 8) (A : ps_Any H po ct sp sb pe wc) : ps_Any H po (upd ct c0 (nI k)) (upd sp c0 0) (upd sb c0 0) pe wc := by
  obtain ⟨P, Q, K, T, C, S⟩ := A
  obtain ⟨h1, ⟨h2, h3⟩, h4, -, -⟩ := S c0 h0
  have ek : K c0 = k + 1 := (nI_eq (by omega) (by omega)).mp (h3.symm.trans hct)
  exact ⟨_, _, _, _, _, ps_set (p := 0) (q := 0) (K0 := k) S h1 (by omega) pk_us (fun i hi => h4 i (by omega)) (fun c hc => ⟨rfl, pk_un hc⟩) (fun x _ => ⟨rfl, rfl⟩) (by omega) (by omega) (fun z => absurd z (by omega))⟩
theorem ps_anyRm {c0 : Nat} (h0 : c0 < 4) (A : ps_Any H po ct sp sb pe wc) : ps_Any H po ct (upd sp c0 0) (upd sb c0 0) pe wc := by
  obtain ⟨P, Q, K, T, C, S⟩ := A
  obtain ⟨h1, ⟨h2, h3⟩, h4, -, -⟩ := S c0 h0
  exact ⟨_, _, _, _, _, ps_set (p := 0) (q := 0) S h1 h2 h3 h4 (fun c _ => ⟨rfl, rfl⟩) (fun x _ => ⟨rfl, rfl⟩) (by omega) (by omega) (fun z => absurd z (by omega))⟩
theorem ps_anyIf {c0 k p q : Nat} (h0 : c0 < 4) (hH : H ≤ 256) (hct : ct c0 = nI k) (hk : k ≤ 8) (hp : p ≤ 32) (hq : q ≤ p) (hcv : pr_cv po pe wc H c0 k p q = true) (A : ps_Any H po ct sp sb pe wc) : ps_Any H po ct (upd sp c0 (nI p)) (upd sb c0 (nI q)) pe wc := by
  obtain ⟨P, Q, K, T, C, S⟩ := A
  obtain ⟨h1, ⟨h2, h3⟩, h4, -, -⟩ := S c0 h0
  have ek : K c0 = k := (nI_eq (by omega) (by omega)).mp (h3.symm.trans hct)
  subst ek
  exact ⟨_, _, _, _, _, ps_set (p := p) (q := q) S h1 h2 h3 h4 (fun c _ => ⟨rfl, rfl⟩) (fun x _ => ⟨rfl, rfl⟩) hp hq (fun _ => ⟨fun z => ps_cvE hH h2 hq h4 z hcv, fun z => ps_cvF h2 hq h4 z hcv⟩)⟩
theorem ps_anyC (A : ps_Any H po ct sp sb pe wc) : ∀ c, c < 4 → pr_C po ct sp sb pe c := by
  obtain ⟨P, Q, K, T, C, S⟩ := A
  exact ps_StC S
end PS38
end
section
section PS39
/-! what the law keeps between its steps -/
def ps_Ok (hz nw ad : Int32) (po ct sp sb pe wc re mi le : Nat → Int32) : Prop :=
  ∃ H n : Nat, 64 ≤ H ∧ H ≤ 256 ∧ n ≤ H ∧ hz = nI H ∧ nw = nI n ∧ ps_Any H po ct sp sb pe wc ∧
    (ad = 0 ∨ (ad = 1 ∧ (∀ c, c < 4 → mi c = 0) ∧ ∃ (P Q K : Nat → Nat) (T C : Nat → Nat → Nat), ps_St H po ct sp sb pe wc P Q K T C ∧ ps_Dy H n po re le P Q K T C))
variable {hz nw ad : Int32} {po ct sp sb pe wc re ex mi le : Nat → Int32}
theorem ps_ok0 {H : Nat} (h1 : 64 ≤ H) (h2 : H ≤ 256) (A : ps_Any H po ct sp sb pe wc) : ps_Ok (nI H) 0 0 po ct sp sb pe wc re mi le :=
  ⟨H, 0, h1, h2, Nat.zero_le _, rfl, rfl, A, Or.inl rfl⟩
/-! a component's number is one -/
theorem ps_xcomp {post : Int32 → Prop} {c : Nat} (hc : c < 4) (h : post 1) : wpX_isComponent post () (nI c) :=
  pr_xcomp (fun z => absurd ⟨c, hc, rfl⟩ z) (fun _ _ _ => h)
theorem ps_xper {post : Int32 → Prop} {p : Nat} (hp : 1 ≤ p) (hp2 : p ≤ 32) (h : post 1) : wpX_isInterfacePeriod post () (nI p) :=
  pr_xper (fun z => absurd ⟨p, hp, hp2, rfl⟩ z) (fun _ _ _ _ => h)
theorem ps_xtime {post : Int32 → Prop} {t : Nat} (ht : t ≤ 100000) (h : post 1) : wpX_isBoundTime post () (nI t) :=
  pr_xtime (fun z => absurd ⟨t, ht, rfl⟩ z) (fun _ _ _ => h)
/-! the calls that change -/
theorem ps_xpol {post : Int32 → St2 → Prop} {c : Nat} {x : Int32} (hc : c < 4) (hx : x = 0 ∨ x = 1) (O : ps_Ok hz nw ad po ct sp sb pe wc re mi le)
    (Hp : ∀ r nw' ad' po' ct' sp' sb' pe' wc' re' ex' mi' le', ps_Ok hz nw' ad' po' ct' sp' sb' pe' wc' re' mi' le' → post r (hz, nw', ad', po', ct', sp', sb', pe', wc', re', ex', mi', le')) :
    wpX_setPolicy post (hz, nw, ad, po, ct, sp, sb, pe, wc, re, ex, mi, le) (nI c) x := by
  obtain ⟨H, n, h1, h2, h3, rfl, rfl, A, -⟩ := O
  unfold wpX_setPolicy
  refine ps_xcomp hc (br_f pr_10 ?_)
  have W : wX_setPolicy_18 post (nI c) x (nI H) (nI n) ad po ct sp sb pe wc re ex mi le := pr_xsp18 hc hx (ps_anyC A) (Hp _ _ _ _ _ _ _ _ _ _ _ _ _ (ps_ok0 h1 h2 (ps_anyPol hc hx A)))
  cases hx with
  | inl a => exact br_t a W
  | inr a => exact br_f (by rw [a]; decide) (br_t a W)
theorem ps_xadd {post : Int32 → St2 → Prop} {c p w : Nat} (hc : c < 4) (hp : 1 ≤ p) (hp2 : p ≤ 64) (hw : 1 ≤ w) (hw2 : w ≤ p) (O : ps_Ok hz nw ad po ct sp sb pe wc re mi le)
    (Hp : ∀ r nw' ad' po' ct' sp' sb' pe' wc' re' ex' mi' le', ps_Ok hz nw' ad' po' ct' sp' sb' pe' wc' re' mi' le' → post r (hz, nw', ad', po', ct', sp', sb', pe', wc', re', ex', mi', le')) :
    wpX_addTask post (hz, nw, ad, po, ct, sp, sb, pe, wc, re, ex, mi, le) (nI c) (nI p) (nI w) := by
  have R := O
  obtain ⟨H, n, h1, h2, h3, rfl, rfl, A, -⟩ := O
  have hcl : (nI c).toNatClampNeg = c := nI_clamp (by omega)
  unfold wpX_addTask
  refine ps_xcomp hc (br_f pr_10 ?_)
  refine br_f (nI_nlt (b := 1) hp (by omega)) (br_f (nI_nlt (a := 64) hp2 (by omega)) (br_f (nI_nlt (b := 1) hw (by omega)) (br_f (nI_nlt hw2 (by omega)) ?_)))
  obtain ⟨-, ⟨k, hk, hct, -⟩, -⟩ := ps_anyC A c hc
  have hcc : ct (nI c).toNatClampNeg = nI k := by rw [hcl]; exact hct
  refine ⟨pr_i4 hc, pk_lt k 8 (fun z => ?_) (fun z => Hp _ _ _ _ _ _ _ _ _ _ _ _ _ R) hcc⟩
  have II := ps_anyAdd hc z hct hp hp2 (show w ≤ 64 by omega) A
  have hin : vp_in (nI (c * 8 + k)) 32 := pr_i32 hc z
  have hsl : (nI (c * 8 + k)).toNatClampNeg = c * 8 + k := nI_clamp (by omega)
  refine ⟨pr_i4 hc, nm_r (e' := nI k) hcc (nm_r (e' := nI (c * 8 + k)) (pr_sl c k) ⟨hin, nm_r (e' := upd pe (c * 8 + k) (nI p)) (by rw [hsl]) ⟨hin, nm_r (e' := upd wc (c * 8 + k) (nI w)) (by rw [hsl]) ⟨pr_i4 hc, nm_r (e' := upd ct c (nI (k + 1))) (by rw [hcl, nI_1]) ?_⟩⟩⟩)⟩
  refine pr_xrmif hc ?_
  refine pr_xinval (ps_anyC II) ?_
  exact Hp _ _ _ _ _ _ _ _ _ _ _ _ _ (ps_ok0 h1 h2 II)
theorem ps_xrem {post : Int32 → St2 → Prop} {c : Nat} (hc : c < 4) (O : ps_Ok hz nw ad po ct sp sb pe wc re mi le)
    (Hp : ∀ r nw' ad' po' ct' sp' sb' pe' wc' re' ex' mi' le', ps_Ok hz nw' ad' po' ct' sp' sb' pe' wc' re' mi' le' → post r (hz, nw', ad', po', ct', sp', sb', pe', wc', re', ex', mi', le')) :
    wpX_removeLastTask post (hz, nw, ad, po, ct, sp, sb, pe, wc, re, ex, mi, le) (nI c) := by
  have R := O
  obtain ⟨H, n, h1, h2, h3, rfl, rfl, A, -⟩ := O
  have hcl : (nI c).toNatClampNeg = c := nI_clamp (by omega)
  unfold wpX_removeLastTask
  refine ps_xcomp hc (br_f pr_10 ?_)
  obtain ⟨-, ⟨k, hk, hct, -⟩, -⟩ := ps_anyC A c hc
  have hcc : ct (nI c).toNatClampNeg = nI k := by rw [hcl]; exact hct
  refine ⟨pr_i4 hc, pk_le 1 k (fun z => ?_) (fun z => Hp _ _ _ _ _ _ _ _ _ _ _ _ _ R) rfl hcc⟩
  obtain ⟨m, rfl⟩ : ∃ m, k = m + 1 := ⟨k - 1, by omega⟩
  have II := ps_anySub hc hct (by omega) A
  have hup : upd ct (nI c).toNatClampNeg (ct (nI c).toNatClampNeg - 1) = upd ct c (nI m) := by rw [hcc, hcl, nI_pred]
  refine ⟨pr_i4 hc, pr_i4 hc, nm_r (e' := upd ct c (nI m)) hup ?_⟩
  refine pr_xrmif hc ?_
  refine pr_xinval (ps_anyC II) ?_
  exact Hp _ _ _ _ _ _ _ _ _ _ _ _ _ (ps_ok0 h1 h2 II)
theorem ps_xci {post : Int32 → St2 → Prop} {H c k p : Nat} (hc : c < 4) (hp : 1 ≤ p) (hp2 : p ≤ 32) (h1 : 64 ≤ H) (h2 : H ≤ 256) (hk : k ≤ 8) (hct : ct c = nI k) (A : ps_Any H po ct sp sb pe wc)
    (H0 : pr_cv po pe wc H c k p p = false → ∀ sp' sb' re' ex' mi' le', ps_Any H po ct sp' sb' pe wc → post (-2) (nI H, 0, 0, po, ct, sp', sb', pe, wc, re', ex', mi', le'))
    (H1 : ∀ q, q ≤ p → pr_cv po pe wc H c k p q = true → (∀ x, x < q → pr_cv po pe wc H c k p x = false) → ∀ sp' sb' re' ex' mi' le', ps_Any H po ct sp' sb' pe wc → post (nI q) (nI H, 0, 0, po, ct, sp', sb', pe, wc, re', ex', mi', le')) :
    wpX_computeInterface post (nI H, nw, ad, po, ct, sp, sb, pe, wc, re, ex, mi, le) (nI c) (nI p) := by
  have hcl : (nI c).toNatClampNeg = c := nI_clamp (by omega)
  obtain ⟨hpo, ⟨n, hn, hct2, hpe⟩, -⟩ := ps_anyC A c hc
  have en : n = k := (nI_eq (by omega) (by omega)).mp (hct2.symm.trans hct)
  subst en
  unfold wpX_computeInterface
  refine ps_xcomp hc (br_f pr_10 ?_)
  refine ps_xper hp hp2 (br_f pr_10 ?_)
  refine pr_xlb h2 hc hn hpo hct2 hpe hp hp2 ?_
  cases e : pr_ls (pr_cv po pe wc H c n p) 0 (p + 1) with
  | none =>
    refine br_t rfl (pr_xrmif hc ?_)
    have II := ps_anyRm hc A
    refine pr_xinval (ps_anyC II) ?_
    exact H0 (ps_lsN _ _ e p (Nat.zero_le _) (by omega)) _ _ _ _ _ _ II
  | some q =>
    have hq := pr_ls_in _ _ _ e
    obtain ⟨q1, q2⟩ := ps_lsS _ _ e
    refine br_f (pr_ansne (by omega)) ⟨pr_i4 hc, nm_r (e' := upd sp c (nI p)) (by rw [hcl]) ⟨pr_i4 hc, nm_r (e' := upd sb c (nI q)) (by rw [hcl]; rfl) ?_⟩⟩
    have II := ps_anyIf hc h2 hct2 hn hp2 (show q ≤ p by omega) q1 A
    refine pr_xinval (ps_anyC II) ?_
    exact H1 q (by omega) q1 (fun x hx => q2 x (Nat.zero_le _) hx) _ _ _ _ _ _ II
theorem ps_xadm {post : Int32 → St2 → Prop} (O : ps_Ok hz nw ad po ct sp sb pe wc re mi le)
    (Hp : ∀ r nw' ad' po' ct' sp' sb' pe' wc' re' ex' mi' le', ps_Ok hz nw' ad' po' ct' sp' sb' pe' wc' re' mi' le' → post r (hz, nw', ad', po', ct', sp', sb', pe', wc', re', ex', mi', le')) :
    wpX_admit post (hz, nw, ad, po, ct, sp, sb, pe, wc, re, ex, mi, le) := by
  obtain ⟨H, n, h1, h2, h3, rfl, rfl, A, -⟩ := O
  have A' := A
  obtain ⟨P, Q, K, T, C, S⟩ := A
  refine pr_xadmit (P := P) (Q := Q) (fun c hc => (S c hc).2.2.2.1.1) (fun c hc => by have a := (S c hc).2.2.2.1; omega) (fun c hc => (S c hc).2.2.2.1.2.2.1) (fun c hc => (S c hc).2.2.2.1.2.2.2) (ps_StC S) (fun b hb => Hp _ _ _ _ _ _ _ _ _ _ _ _ _ ?_)
  refine ⟨H, 0, h1, h2, Nat.zero_le _, rfl, rfl, A', ?_⟩
  cases b with
  | false => exact Or.inl rfl
  | true =>
    have a := Bool.and_eq_true_iff.mp hb.symm
    have hs : ∀ c, c < 4 → 0 < K c → 0 < P c := by
      intro c hc hk
      have f := ps_allT _ _ a.1 c (Nat.zero_le _) (by omega)
      obtain ⟨-, ⟨k1, k2⟩, -, ⟨p1, p2, p3, p4⟩, -⟩ := S c hc
      by_cases z : P c = 0
      · have g : (decide (ct c ≤ 0) || !decide (sp c = 0)) = true := f
        rw [decide_eq_false (show ¬ ct c ≤ 0 by rw [k2]; exact fun y => by have := (ps_le0 (by omega)).mp y; omega), decide_eq_true (show sp c = 0 by rw [p3, z]; rfl)] at g
        cases g
      · omega
    refine Or.inr ⟨rfl, fun c hc => ?_, P, Q, K, T, C, S, ps_start S hs (ps_bw (of_decide_eq_true a.2))⟩
    show (if 0 ≤ c ∧ c < 4 then 0 else mi c) = 0
    exact if_pos ⟨Nat.zero_le _, hc⟩
theorem ps_xrunO {post : Int32 → St2 → Prop} {v : Nat} (hv : 1 ≤ v) (hv2 : v ≤ 1000) (O : ps_Ok hz nw ad po ct sp sb pe wc re mi le)
    (Hp : ∀ r nw' ad' po' ct' sp' sb' pe' wc' re' ex' mi' le', ps_Ok hz nw' ad' po' ct' sp' sb' pe' wc' re' mi' le' → post r (hz, nw', ad', po', ct', sp', sb', pe', wc', re', ex', mi', le')) :
    wpX_run post (hz, nw, ad, po, ct, sp, sb, pe, wc, re, ex, mi, le) (nI v) := by
  have R := O
  obtain ⟨H, n, h1, h2, h3, rfl, rfl, A, B⟩ := O
  cases B with
  | inl a => exact br_t a (Hp _ _ _ _ _ _ _ _ _ _ _ _ _ R)
  | inr B =>
    obtain ⟨a, hm, P, Q, K, T, C, S, D⟩ := B
    have Ok : ∀ n' re' ex' le', n' ≤ H → ps_Dy H n' po re' le' P Q K T C → ∀ r, post r (nI H, nI n', ad, po, ct, sp, sb, pe, wc, re', ex', mi, le') := fun n' re' ex' le' hn' D' r => Hp _ _ _ _ _ _ _ _ _ _ _ _ _ ⟨H, n', h1, h2, hn', rfl, rfl, A, Or.inr ⟨a, hm, P, Q, K, T, C, S, D'⟩⟩
    refine br_f (by rw [a]; decide) (br_t (nI_le (a := 1) hv (by omega)) (nm_r (e' := nI (H - n)) (pk_sub h3) ?_))
    by_cases e : H - n ≤ v
    · refine br_t ((nI_leI (by omega) (by omega)).mpr e) ⟨H - n + 1, ps_xrun S h2 (m := H - n) (by omega) (H - n) 0 n (by omega) (by omega) re ex le D (fun re' ex' le' D' => ?_)⟩
      exact Ok _ _ _ _ (by omega) D' _
    · refine br_f (fun y => e ((nI_leI (by omega) (by omega)).mp y)) ⟨v + 1, ps_xrun S h2 (m := v) (by omega) v 0 n (by omega) (by omega) re ex le D (fun re' ex' le' D' => ?_)⟩
      exact Ok _ _ _ _ (by omega) D' _
end PS39
end
section
section PS40
variable {hz nw ad : Int32} {po ct sp sb pe wc re ex mi le : Nat → Int32}
/-! the calls that only read -/
theorem ps_xmiss {post : Int32 → Prop} {c : Nat} (hc : c < 4) (h : post (mi c)) : wpX_getMisses post (hz, nw, ad, po, ct, sp, sb, pe, wc, re, ex, mi, le) (nI c) := by
  have hcl : (nI c).toNatClampNeg = c := nI_clamp (by omega)
  unfold wpX_getMisses
  refine ps_xcomp hc (br_f pr_10 ⟨pr_i4 hc, ?_⟩)
  rw [hcl]; exact h
theorem ps_xgc0 {post : Int32 → Prop} {c : Nat} (hc : c < 4) (h : post (po c)) : wpX_getComponent post (hz, nw, ad, po, ct, sp, sb, pe, wc, re, ex, mi, le) (nI c) 0 := by
  have hcl : (nI c).toNatClampNeg = c := nI_clamp (by omega)
  unfold wpX_getComponent
  refine ps_xcomp hc (br_f pr_10 (br_f (by decide) (br_f (by decide) (br_t rfl ⟨pr_i4 hc, ?_⟩))))
  rw [hcl]; exact h
theorem ps_xgc1 {post : Int32 → Prop} {c : Nat} (hc : c < 4) (h : post (ct c)) : wpX_getComponent post (hz, nw, ad, po, ct, sp, sb, pe, wc, re, ex, mi, le) (nI c) 1 := by
  have hcl : (nI c).toNatClampNeg = c := nI_clamp (by omega)
  unfold wpX_getComponent
  refine ps_xcomp hc (br_f pr_10 (br_f (by decide) (br_f (by decide) (br_f (by decide) (br_t rfl ⟨pr_i4 hc, ?_⟩)))))
  rw [hcl]; exact h
theorem ps_xtask {post : Int32 → Prop} {c j k : Nat} (hc : c < 4) (hj : j < k) (hk : k ≤ 8) (hct : ct c = nI k) (h : post 1) : wpX_isTask post (hz, nw, ad, po, ct, sp, sb, pe, wc, re, ex, mi, le) (nI c) (nI j) := by
  have hcl : (nI c).toNatClampNeg = c := nI_clamp (by omega)
  have hcc : ct (nI c).toNatClampNeg = nI k := by rw [hcl]; exact hct
  unfold wpX_isTask
  exact ps_xcomp hc (br_f pr_10 (br_f (nI_pos (by omega)) ⟨pr_i4 hc, pk_le k j (fun z => absurd z (by omega)) (fun _ => h) hcc⟩))
theorem ps_xgt0 {post : Int32 → Prop} {c j k : Nat} (hc : c < 4) (hj : j < k) (hk : k ≤ 8) (hct : ct c = nI k) (h : post (pe (c * 8 + j))) : wpX_getTask post (hz, nw, ad, po, ct, sp, sb, pe, wc, re, ex, mi, le) (nI c) (nI j) 0 := by
  have hsl : (nI (c * 8 + j)).toNatClampNeg = c * 8 + j := nI_clamp (by omega)
  unfold wpX_getTask
  refine ps_xtask hc hj hk hct (br_f pr_10 (nm_r (e' := nI (c * 8 + j)) (pr_sl c j) (br_f (by decide) (br_f (by decide) (br_t rfl ⟨pr_i32 hc (by omega), ?_⟩)))))
  rw [hsl]; exact h
theorem ps_xdem {post : Int32 → Prop} {c k t : Nat} (hc : c < 4) (hk : k ≤ 8) (hct : ct c = nI k) (hp : ∀ i, i < k → ¬ pe (c * 8 + i) = 0) (ht : t ≤ 1000) (h : post (pr_dm pe wc (nI t) (c * 8) k)) :
    wpX_demandBound post (hz, nw, ad, po, ct, sp, sb, pe, wc, re, ex, mi, le) (nI c) (nI t) := by
  unfold wpX_demandBound
  exact ps_xcomp hc (br_f pr_10 (ps_xtime (by omega) (br_f pr_10 (pr_xdemand hc hk hct hp h))))
theorem ps_xreq {post : Int32 → Prop} {c j k t : Nat} (hc : c < 4) (hj : j < k) (hk : k ≤ 8) (hct : ct c = nI k) (hp : ∀ i, i < k → ¬ pe (c * 8 + i) = 0) (ht : t ≤ 1000) (h : post (pr_rq pe wc (nI t) (c * 8) (j + 1))) :
    wpX_requestBound post (hz, nw, ad, po, ct, sp, sb, pe, wc, re, ex, mi, le) (nI c) (nI j) (nI t) := by
  unfold wpX_requestBound
  exact ps_xtask hc hj hk hct (br_f pr_10 (ps_xtime (by omega) (br_f pr_10 (pr_xrequest hc (by omega) (fun i hi => hp i (by omega)) h))))
theorem ps_xsup {post : Int32 → Prop} {p q t : Nat} (hp : 1 ≤ p) (hp2 : p ≤ 32) (hq : q ≤ p) (ht : t ≤ 1000) (h : post (nI (pr_sb p q t))) :
    wpX_supplyBound post (hz, nw, ad, po, ct, sp, sb, pe, wc, re, ex, mi, le) (nI p) (nI q) (nI t) := by
  unfold wpX_supplyBound
  exact ps_xper hp hp2 (br_f pr_10 (br_f (nI_pos (by omega)) (br_f (nI_nlt hq (by omega)) (ps_xtime (by omega) (br_f pr_10 (pr_xsup hp hp2 hq (by omega) h))))))
/-! the law: no misses -/
variable {post : Int32 → Prop} {L : Nat} {xs : Nat → Int32} {J : Int32 → Int32 → Int32 → Int32 → (Nat → Int32) → (Nat → Int32) → (Nat → Int32) → (Nat → Int32) → (Nat → Int32) → (Nat → Int32) → (Nat → Int32) → (Nat → Int32) → (Nat → Int32) → (Nat → Int32) → Prop} {J196 J334 : Int32 → Prop} {x2 x3 x10 x11 x13 : Int32} {kc ks : Nat}
theorem ps_l500 (hm : ∀ c, c < 4 → mi c = 0) (HJ : J (x3 + 4) hz nw ad po ct sp sb pe wc re ex mi le) :
    ∀ d c, c + d = 4 → wL_law_500 post L xs J x2 x3 kc ks hz nw ad po ct sp sb pe wc re ex mi le (d + 1) (nI c) := by
  intro d
  induction d with
  | zero =>
    intro c hc
    exact pk_le 4 c (fun _ => nm_e HJ) (fun z => absurd z (by omega))
  | succ d ih =>
    intro c hc
    exact pk_le 4 c (fun z => absurd z (by omega)) (fun _ => ps_xmiss (by omega) (br_t (hm c (by omega)) (nm_r (nI_1 c) (ih (c + 1) (by omega)))))
theorem ps_l490 (O : ps_Ok hz nw ad po ct sp sb pe wc re mi le) (HJ : J (x3 + 4) hz nw ad po ct sp sb pe wc re ex mi le) : wL_law_490 post L xs J x2 x3 kc ks hz nw ad po ct sp sb pe wc re ex mi le := by
  obtain ⟨H, n, h1, h2, h3, rfl, rfl, A, B⟩ := O
  unfold wL_law_490
  cases B with
  | inl a =>
    subst a
    exact ⟨rfl, br_t rfl (nm_e HJ)⟩
  | inr B =>
    obtain ⟨a, hm, -⟩ := B
    subst a
    exact ⟨rfl, br_f pr_10 ⟨5, ps_l500 hm HJ 4 0 (by omega)⟩⟩
/-! the law: covering told anew -/
theorem ps_l431 {x8 x9 x14 : Int32} (h : x14 = x13) (HJ : J196 (x11 + 1)) : wL_law_431 post L xs J J196 x2 x3 x8 x9 x10 x11 x13 x14 kc ks hz nw ad po ct sp sb pe wc re ex mi le :=
  br_t h (nm_e HJ)
theorem ps_l280 {H c k p q : Nat} (hH : H ≤ 256) (hc : c < 4) (hk : k ≤ 8) (hct : ct c = nI k) (hpe : ∀ i, i < k → ¬ pe (c * 8 + i) = 0) (hp : 1 ≤ p) (hp2 : p ≤ 32) (hq : q ≤ p) (HJ : J196 (x11 + 1)) :
    ∀ d i, i + d = H + 1 → pr_b (pr_all (pr_fD pe wc c k p q) i d) = x13 → wL_law_280 post L xs J J196 (nI H) x3 (nI c) (nI p) x10 x11 (nI q) x13 1 kc ks hz nw ad po ct sp sb pe wc re ex mi le (d + 1) (nI i) := by
  intro d
  induction d with
  | zero =>
    intro i hi e
    exact pk_lt H i (fun _ => ps_l431 e HJ) (fun z => absurd z (by omega))
  | succ d ih =>
    intro i hi e
    refine pk_lt H i (fun z => absurd z (by omega)) (fun _ => ps_xdem hc hk hct hpe (by omega) (ps_xsup hp hp2 hq (by omega) (br_c (fun z => nm_r (nI_1 i) (ih (i + 1) (by omega) ?_)) (fun z => ps_l431 ?_ HJ))))
    · rw [pr_all_t (decide_eq_true z)] at e; exact e
    · rw [pr_all_f (decide_eq_false z)] at e; exact e
theorem ps_l365 {T c j k p q : Nat} {x12 x14 x16 : Int32} (hT : T ≤ 64) (hc : c < 4) (hj : j < k) (hk : k ≤ 8) (hct : ct c = nI k) (hpe : ∀ i, i < k → ¬ pe (c * 8 + i) = 0) (hp : 1 ≤ p) (hp2 : p ≤ 32) (hq : q ≤ p) (h12 : x12 = nI q) (HJ : J196 (x11 + 1)) :
    ∀ d i, i + d = T + 1 → (pr_any (pr_fT pe wc c p q j) i d = false → 0 = x13) → (pr_any (pr_fT pe wc c p q j) i d = true → J334 (nI (j + 1))) →
      wL_law_365 post L xs J J196 J334 x2 x3 (nI c) (nI p) x10 x11 x12 x13 x14 x16 (nI j) (nI T) 0 kc ks hz nw ad po ct sp sb pe wc re ex mi le (d + 1) (nI i) := by
  subst h12
  intro d
  induction d with
  | zero =>
    intro i hi e0 e1
    exact pk_lt T i (fun _ => br_t rfl (ps_l431 (e0 rfl) HJ)) (fun z => absurd z (by omega))
  | succ d ih =>
    intro i hi e0 e1
    refine pk_lt T i (fun z => absurd z (by omega)) (fun _ => pk_lt 64 i (fun z => absurd z (by omega)) (fun _ => ps_xreq hc hj hk hct hpe (by omega) (ps_xsup hp hp2 hq (by omega) (br_c (fun z => nm_r (nI_1 i) (ih (i + 1) (by omega) ?_ ?_)) (fun z => br_f pr_10 (nm_r (nI_1 j) (e1 ?_)))))))
    · rw [pr_any_f (decide_eq_false (fun y => y z))] at e0; exact e0
    · rw [pr_any_f (decide_eq_false (fun y => y z))] at e1; exact e1
    · exact pr_any_t (decide_eq_true z)
theorem ps_l334 {c k p q : Nat} (hc : c < 4) (hk : k ≤ 8) (hct : ct c = nI k) (hpe : ∀ i, i < k → ∃ p, 1 ≤ p ∧ p ≤ 64 ∧ pe (c * 8 + i) = nI p) (hp : 1 ≤ p) (hp2 : p ≤ 32) (hq : q ≤ p) (HJ : J196 (x11 + 1)) :
    ∀ d j, j + d = k → pr_b (pr_all (pr_fF pe wc c p q) j d) = x13 → wL_law_334 post L xs J J196 x2 x3 (nI c) (nI p) x10 x11 (nI q) x13 1 (nI k) kc ks hz nw ad po ct sp sb pe wc re ex mi le (d + 1) (nI j) := by
  intro d
  induction d with
  | zero =>
    intro j hj e
    exact pk_le k j (fun _ => ps_l431 e HJ) (fun z => absurd z (by omega))
  | succ d ih =>
    intro j hj e
    obtain ⟨T, h1, hT, eT⟩ := hpe j (by omega)
    have eF : pr_fF pe wc c p q j = pr_any (pr_fT pe wc c p q j) 1 T := by
      show pr_any (pr_fT pe wc c p q j) 1 (pr_K pe (c * 8 + j)) = _
      rw [pr_Ke eT (by omega)]
    refine pk_le k j (fun z => absurd z (by omega)) (fun _ => pk_le 8 j (fun z => absurd z (by omega)) (fun _ => ps_xgt0 hc (by omega) hk hct ?_))
    rw [eT]
    refine ⟨T + 1, ps_l365 hT hc (by omega) hk hct (pr_nz hpe) hp hp2 hq rfl HJ T 1 (by omega) (fun y => ?_) (fun y => ?_)⟩
    · rw [pr_all_f (eF.trans y)] at e; exact e
    · rw [pr_all_t (eF.trans y)] at e
      exact ih (j + 1) (by omega) e
theorem ps_l260 {H c k p q : Nat} (hH : H ≤ 256) (hc : c < 4) (hpo : po c = 0 ∨ po c = 1) (hk : k ≤ 8) (hct : ct c = nI k) (hpe : ∀ i, i < k → ∃ p, 1 ≤ p ∧ p ≤ 64 ∧ pe (c * 8 + i) = nI p) (hp : 1 ≤ p) (hp2 : p ≤ 32) (hq : q ≤ p)
    (e : pr_b (pr_cv po pe wc H c k p q) = x13) (HJ : J196 (x11 + 1)) : wL_law_260 post L xs J J196 (nI H) x3 (nI c) (nI p) x10 x11 (nI q) x13 kc ks hz nw ad po ct sp sb pe wc re ex mi le := by
  unfold wL_law_260
  refine ps_xgc0 hc ?_
  cases hpo with
  | inl h =>
    have e2 : pr_cv po pe wc H c k p q = pr_all (pr_fD pe wc c k p q) 1 H := if_neg (by rw [h]; decide)
    rw [e2] at e
    exact br_t h ⟨H + 1, ps_l280 hH hc hk hct (pr_nz hpe) hp hp2 hq HJ H 1 (by omega) e⟩
  | inr h =>
    have e2 : pr_cv po pe wc H c k p q = pr_all (pr_fF pe wc c p q) 0 k := if_pos h
    rw [e2] at e
    refine br_f (by rw [h]; decide) (ps_xgc1 hc ?_)
    rw [hct]
    exact ⟨k + 1, ps_l334 hc hk hct hpe hp hp2 hq HJ k 0 (by omega) e⟩
/-! the law: after computeInterface -/
theorem ps_l196N {H c k p : Nat} (hH : H ≤ 256) (hc : c < 4) (hpo : po c = 0 ∨ po c = 1) (hk : k ≤ 8) (hct : ct c = nI k) (hpe : ∀ i, i < k → ∃ p, 1 ≤ p ∧ p ≤ 64 ∧ pe (c * 8 + i) = nI p) (hp : 1 ≤ p) (hp2 : p ≤ 32)
    (e : pr_cv po pe wc H c k p p = false) (W : wL_law_490 post L xs J (nI H) x3 kc ks hz nw ad po ct sp sb pe wc re ex mi le) :
    wL_law_196 post L xs J (nI H) x3 (nI c) (nI p) (-2) kc ks hz nw ad po ct sp sb pe wc re ex mi le 2 0 := by
  refine pk_le 2 0 (fun z => absurd z (by omega)) (fun _ => br_t rfl (br_f (by decide) (ps_l260 hH hc hpo hk hct hpe hp hp2 (Nat.le_refl _) (by rw [e]; rfl) ?_)))
  exact pk_le 2 1 (fun z => absurd z (by omega)) (fun _ => br_t rfl (br_t (by decide) W))
theorem ps_l196S {H c k p q : Nat} (hH : H ≤ 256) (hc : c < 4) (hpo : po c = 0 ∨ po c = 1) (hk : k ≤ 8) (hct : ct c = nI k) (hpe : ∀ i, i < k → ∃ p, 1 ≤ p ∧ p ≤ 64 ∧ pe (c * 8 + i) = nI p) (hp : 1 ≤ p) (hp2 : p ≤ 32) (hq : q ≤ p)
    (e : pr_cv po pe wc H c k p q = true) (f : ∀ x, x < q → pr_cv po pe wc H c k p x = false) (W : wL_law_490 post L xs J (nI H) x3 kc ks hz nw ad po ct sp sb pe wc re ex mi le) :
    wL_law_196 post L xs J (nI H) x3 (nI c) (nI p) (nI q) kc ks hz nw ad po ct sp sb pe wc re ex mi le 3 0 := by
  refine pk_le 2 0 (fun z => absurd z (by omega)) (fun _ => br_f (pr_ansne (by omega)) (br_t rfl (ps_l260 hH hc hpo hk hct hpe hp hp2 hq (by rw [e]; rfl) ?_)))
  refine pk_le 2 1 (fun z => absurd z (by omega)) (fun _ => br_f (pr_ansne (by omega)) (br_f (by decide) (pk_eq q 0 (fun z => W) (fun z => ?_))))
  obtain ⟨m, rfl⟩ : ∃ m, q = m + 1 := ⟨q - 1, by omega⟩
  refine nm_r (e' := nI m) (nI_pred m) (ps_l260 hH hc hpo hk hct hpe hp hp2 (by omega) (by rw [f m (by omega)]; rfl) ?_)
  exact pk_le 2 2 (fun _ => W) (fun z => absurd z (by omega))
/-! the law: its loop -/
theorem ps_cell {P : Int32 → Prop} {i : Nat} {y : Int32} (hL : L ≤ 260) (hi : i ≤ 1000) (hy : y = nI i) (h : ∀ r, P r) : wpL_cell P L xs () y := by
  subst hy
  exact pk_le L i (fun _ => h _) (fun z => ⟨vp_in_nI z (by omega), h _⟩)
theorem ps_l24 (hL : L ≤ 260) (hpost : post 1) : ∀ d i, L ≤ i + 4 * d → i ≤ 600 → ∀ (nw ad : Int32) (po ct sp sb pe wc re ex mi le : Nat → Int32), ps_Ok hz nw ad po ct sp sb pe wc re mi le →
    wL_law_24 post L xs hz kc ks (d + 1) (nI i) hz nw ad po ct sp sb pe wc re ex mi le := by
  intro d
  induction d with
  | zero =>
    intro i h1 h2 nw ad po ct sp sb pe wc re ex mi le O
    exact pk_le L i (fun _ => hpost) (fun z => absurd z (by omega))
  | succ d ih =>
    intro i h1 h2 nw ad po ct sp sb pe wc re ex mi le O
    by_cases hi : L ≤ i
    · exact pk_le L i (fun _ => hpost) (fun z => absurd z (by omega))
    have N : ∀ (nw ad : Int32) (po ct sp sb pe wc re ex mi le : Nat → Int32), ps_Ok hz nw ad po ct sp sb pe wc re mi le → wL_law_490 post L xs (wL_law_24 post L xs hz kc ks (d + 1)) hz (nI i) kc ks hz nw ad po ct sp sb pe wc re ex mi le := by
      intro nw ad po ct sp sb pe wc re ex mi le O'
      refine ps_l490 O' ?_
      rw [show nI i + 4 = nI (i + 4) from nI_add i 4]
      exact ih (i + 4) (by omega) (by omega) nw ad po ct sp sb pe wc re ex mi le O'
    refine pk_le L i (fun z => absurd z hi) (fun _ => ps_cell hL (i := i) (by omega) rfl (fun r0 => nm_e (ps_cell hL (i := i + 1) (by omega) (nI_add i 1) (fun r1 => ps_cell hL (i := i + 2) (by omega) (nI_add i 2) (fun r2 => ps_cell hL (i := i + 3) (by omega) (nI_add i 3) (fun r3 => br_c (fun _ => br_c (fun _ => ?_) (fun _ => br_c (fun _ => ?_) (fun _ => br_c (fun _ => ?_) (fun _ => br_c (fun _ => ?_) (fun _ => ?_))))) (fun _ => ?_)))))))
    · obtain ⟨c, hc, e⟩ := pk_andE r1 (m := 3) 2 (by decide)
      obtain ⟨b, hb, e2⟩ := pk_andE r2 (m := 1) 1 (by decide)
      rw [e, e2]
      refine ps_xpol (by omega) ?_ O (fun r nw' ad' po' ct' sp' sb' pe' wc' re' ex' mi' le' O' => N _ _ _ _ _ _ _ _ _ _ _ _ O')
      have hb2 : b = 0 ∨ b = 1 := by omega
      cases hb2 with
      | inl h => subst h; exact Or.inl rfl
      | inr h => subst h; exact Or.inr rfl
    · obtain ⟨c, hc, e⟩ := pk_andE r1 (m := 3) 2 (by decide)
      rw [e]
      exact ps_xrem (by omega) O (fun r nw' ad' po' ct' sp' sb' pe' wc' re' ex' mi' le' O' => N _ _ _ _ _ _ _ _ _ _ _ _ O')
    · obtain ⟨c, hc, e⟩ := pk_andE r1 (m := 3) 2 (by decide)
      obtain ⟨b, hb, e2⟩ := pk_andE r2 (m := 31) 5 (by decide)
      refine nm_r e (nm_r (e' := nI (1 + b)) (by rw [e2]; exact nI_add 1 b) ?_)
      obtain ⟨H, n, g1, g2, g3, rfl, rfl, A, -⟩ := O
      obtain ⟨hpo, ⟨k, hk, hct, hpe⟩, -⟩ := ps_anyC A c (by omega)
      refine ps_xci (by omega) (by omega) (by omega) g1 g2 hk hct A (fun f sp' sb' re' ex' mi' le' A' => ?_) (fun q hq f1 f2 sp' sb' re' ex' mi' le' A' => ?_)
      · exact br_f (by decide) (br_t rfl ⟨2, ps_l196N g2 (by omega) hpo hk hct hpe (by omega) (by omega) f (N _ _ _ _ _ _ _ _ _ _ _ _ (ps_ok0 g1 g2 A'))⟩)
      · exact br_t (nI_pos' (by omega)) ⟨3, ps_l196S g2 (by omega) hpo hk hct hpe (by omega) (by omega) hq f1 f2 (N _ _ _ _ _ _ _ _ _ _ _ _ (ps_ok0 g1 g2 A'))⟩
    · obtain ⟨b, hb, e⟩ := pk_andE r3 (m := 255) 8 (by decide)
      refine ps_xadm O (fun r nw' ad' po' ct' sp' sb' pe' wc' re' ex' mi' le' O' => ?_)
      rw [e, show 1 + nI b = nI (1 + b) from nI_add 1 b]
      exact ps_xrunO (by omega) (by omega) O' (fun r nw' ad' po' ct' sp' sb' pe' wc' re' ex' mi' le' O' => N _ _ _ _ _ _ _ _ _ _ _ _ O')
    · obtain ⟨b, hb, e⟩ := pk_andE r3 (m := 255) 8 (by decide)
      rw [e, show 1 + nI b = nI (1 + b) from nI_add 1 b]
      exact ps_xrunO (by omega) (by omega) O (fun r nw' ad' po' ct' sp' sb' pe' wc' re' ex' mi' le' O' => N _ _ _ _ _ _ _ _ _ _ _ _ O')
    · obtain ⟨c, hc, e⟩ := pk_andE r1 (m := 1) 1 (by decide)
      obtain ⟨b, hb, e2⟩ := pk_andE r2 (m := 63) 6 (by decide)
      obtain ⟨f, hf, e3⟩ := pk_andE r3 (m := 7) 3 (by decide)
      have hm := Nat.mod_lt f (show 0 < 1 + b by omega)
      refine nm_r (e' := nI (1 + b)) (by rw [e2]; exact nI_add 1 b) ⟨nI_ne0 (by omega) (by omega), nm_r (e' := nI (1 + f % (1 + b))) (by rw [e3, pk_rem (by omega) (by omega) (by omega)]; exact nI_add 1 _) ?_⟩
      rw [e]
      exact ps_xadd (by omega) (by omega) (by omega) (by omega) (by omega) O (fun r nw' ad' po' ct' sp' sb' pe' wc' re' ex' mi' le' O' => N _ _ _ _ _ _ _ _ _ _ _ _ O')
end PS40
end
section
section PS41
theorem ps_init {post : St2 → Prop} {x : Int32} (H : ∀ h, 64 ≤ h → h ≤ 256 → ∀ re ex mi le : Nat → Int32, post (nI h, 0, 0, fun _ => 0, fun _ => 0, fun _ => 0, fun _ => 0, fun _ => 0, fun _ => 0, re, ex, mi, le)) : wpX_init post 10 152 (0, 0, 0) x := by
  unfold wpX_init
  refine ⟨by decide, by decide, by decide, by decide, by decide, by decide, by decide, by decide, by decide, by decide, by decide, by decide, by decide, by decide, by decide, by decide, by decide, by decide, by decide, by decide, ?_⟩
  have G : ∀ h, 64 ≤ h → h ≤ 256 → wpX_invalidate (fun u => match u with | (a, b, c, d1, d2, d3, d4, d5, d6, d7, d8, d9, d10) => post (a, b, c, d1, d2, d3, d4, d5, d6, d7, d8, d9, d10)) (nI h, 0, 0, fun _ => 0, fun _ => 0, fun _ => 0, fun _ => 0, fun _ => 0, fun _ => 0, fun _ => 0, fun _ => 0, fun _ => 0, fun _ => 0) :=
    fun h h1 h2 => pr_xinval pr_C0 (H h h1 h2 _ _ _ _)
  by_cases a : (64 : Int32) ≤ x
  · by_cases b : x ≤ 256
    · have n0 : ¬ x < 0 := fun z => absurd (Int32.lt_of_le_of_lt a z) (by decide)
      obtain ⟨h, hh, rfl⟩ := nI_of n0
      have h1 : 64 ≤ h := (nI_leI (a := 64) (by omega) hh).mp a
      have h2 : h ≤ 256 := (nI_leI (b := 256) hh (by omega)).mp b
      exact br_t a (br_t b (G h h1 h2))
    · exact br_t a (br_f b (G 256 (by omega) (by omega)))
  · exact br_f a (G 64 (by omega) (by omega))
theorem ps_go {post : Int32 → Prop} {L : Nat} {xs : Nat → Int32} {h kc ks : Nat} (hL : L ≤ 260) (hpost : post 1) (h1 : 64 ≤ h) (h2 : h ≤ 256) (re ex mi le : Nat → Int32) :
    ∃ n, wL_law_24 post L xs (nI h) kc ks n (nI 1) (nI h) 0 0 (fun _ => 0) (fun _ => 0) (fun _ => 0) (fun _ => 0) (fun _ => 0) (fun _ => 0) re ex mi le :=
  ⟨65 + 1, ps_l24 hL hpost 65 1 (by omega) (by omega) 0 0 _ _ _ _ _ _ re ex mi le (ps_ok0 h1 h2 ps_any0)⟩
theorem ps_gh {post : Int32 → Prop} {hz nw ad : Int32} {po ct sp sb pe wc re ex mi le : Nat → Int32} (h : post hz) : wpX_getHorizon post (hz, nw, ad, po, ct, sp, sb, pe, wc, re, ex, mi, le) := h
theorem i_vc (xs : Nat → Int32) (L : Nat) (hL : L ≤ 260) : wpL_law (fun r => r = 1) L xs := by
  unfold wpL_law
  refine ps_cell hL (i := 0) (by omega) rfl ?_
  intro r
  refine ⟨10, 152, by decide, by decide, ?_⟩
  refine ps_init ?_
  intro h h1 h2 re ex mi le
  refine ps_gh ?_
  exact ps_go (post := fun r => r = 1) hL rfl h1 h2 re ex mi le
end PS41
end
