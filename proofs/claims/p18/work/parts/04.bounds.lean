section PR04
variable {hz nw ad : Int32} {po ct sp sb pe wc re ex mi le : Nat → Int32}
/-! demand -/
def pr_dm (pe wc : Nat → Int32) (t : Int32) (b : Nat) : Nat → Int32
  | 0 => 0
  | d + 1 => pr_dm pe wc t b d + t / pe (b + d) * wc (b + d)
theorem pr_xdm23 {post : Int32 → Prop} {t : Int32} {c k : Nat} (hc : c < 4) (hk : k ≤ 8) (hp : ∀ i, i < k → ¬ pe (c * 8 + i) = 0)
    (H : post (pr_dm pe wc t (c * 8) k)) :
    ∀ d i, i + d = k → wX_demand_23 post t (nI (c * 8 + k)) hz nw ad po ct sp sb pe wc re ex mi le (d + 1) (pr_dm pe wc t (c * 8) i) (nI (c * 8 + i)) := by
  intro d
  induction d with
  | zero =>
    intro i hi
    have e : i = k := by omega
    subst e
    exact pk_le (c * 8 + i) (c * 8 + i) (fun _ => H) (fun z => absurd z (by omega))
  | succ d ih =>
    intro i hi
    have hin : vp_in (nI (c * 8 + i)) 32 := pr_i32 hc (by omega)
    have hcl : (nI (c * 8 + i)).toNatClampNeg = c * 8 + i := nI_clamp (by omega)
    refine pk_le (c * 8 + k) (c * 8 + i) (fun z => absurd z (by omega)) (fun _ => ⟨hin, ?_, hin, nm_r (e' := pr_dm pe wc t (c * 8) (i + 1)) ?_ (nm_r (e' := nI (c * 8 + (i + 1))) (nI_1 _) (ih (i + 1) (by omega)))⟩)
    · rw [hcl]; exact hp i (by omega)
    · rw [hcl]; rfl
theorem pr_xdemand {post : Int32 → Prop} {t : Int32} {c k : Nat} (hc : c < 4) (hk : k ≤ 8) (hct : ct c = nI k) (hp : ∀ i, i < k → ¬ pe (c * 8 + i) = 0)
    (H : post (pr_dm pe wc t (c * 8) k)) : wpX_demand post (hz, nw, ad, po, ct, sp, sb, pe, wc, re, ex, mi, le) (nI c) t := by
  have hcl : (nI c).toNatClampNeg = c := nI_clamp (by omega)
  refine nm_r (e' := nI (c * 8)) (pr_m8 c) ⟨pr_i4 hc, nm_r (e' := nI (c * 8 + k)) ?_ ⟨k + 1, pr_xdm23 hc hk hp H k 0 (by omega)⟩⟩
  rw [hcl, hct]; exact nI_add _ _
/-! request, over the first j + 1 tasks -/
def pr_rq (pe wc : Nat → Int32) (t : Int32) (b : Nat) : Nat → Int32
  | 0 => 0
  | d + 1 => pr_rq pe wc t b d + (t + pe (b + d) - 1) / pe (b + d) * wc (b + d)
theorem pr_xrq19 {post : Int32 → Prop} {t : Int32} {c j : Nat} (hc : c < 4) (hj : j < 8) (hp : ∀ i, i < j + 1 → ¬ pe (c * 8 + i) = 0)
    (H : post (pr_rq pe wc t (c * 8) (j + 1))) :
    ∀ d i, i + d = j + 1 → wX_request_19 post t (nI (c * 8 + j)) hz nw ad po ct sp sb pe wc re ex mi le (d + 1) (pr_rq pe wc t (c * 8) i) (nI (c * 8 + i)) := by
  intro d
  induction d with
  | zero =>
    intro i hi
    have e : i = j + 1 := by omega
    subst e
    exact pk_lt (c * 8 + j) (c * 8 + (j + 1)) (fun _ => H) (fun z => absurd z (by omega))
  | succ d ih =>
    intro i hi
    have hin : vp_in (nI (c * 8 + i)) 32 := pr_i32 hc (by omega)
    have hcl : (nI (c * 8 + i)).toNatClampNeg = c * 8 + i := nI_clamp (by omega)
    refine pk_lt (c * 8 + j) (c * 8 + i) (fun z => absurd z (by omega)) (fun _ => ⟨hin, nm_r (e' := pe (c * 8 + i)) (by rw [hcl]) ⟨hp i (by omega), hin, nm_r (e' := pr_rq pe wc t (c * 8) (i + 1)) ?_ (nm_r (e' := nI (c * 8 + (i + 1))) (nI_1 _) (ih (i + 1) (by omega)))⟩⟩)
    rw [hcl]; rfl
theorem pr_xrequest {post : Int32 → Prop} {t : Int32} {c j : Nat} (hc : c < 4) (hj : j < 8) (hp : ∀ i, i < j + 1 → ¬ pe (c * 8 + i) = 0)
    (H : post (pr_rq pe wc t (c * 8) (j + 1))) : wpX_request post (hz, nw, ad, po, ct, sp, sb, pe, wc, re, ex, mi, le) (nI c) (nI j) t :=
  nm_r (e' := nI (c * 8)) (pr_m8 c) (nm_r (e' := nI (c * 8 + j)) (nI_add _ _) ⟨j + 1 + 1, pr_xrq19 hc hj hp H (j + 1) 0 (by omega)⟩)
/-! supply, in naturals -/
def pr_sb (p q t : Nat) : Nat := if q = 0 ∨ t ≤ p - q then 0 else (t - (p - q)) / p * q + ((t - (p - q)) % p - (p - q))
theorem pr_xsup {post : Int32 → Prop} {p q t : Nat} (hp : 1 ≤ p) (hp2 : p ≤ 32) (hq : q ≤ p) (ht : t ≤ 100000)
    (H : post (nI (pr_sb p q t))) : wpX_supply post () (nI p) (nI q) (nI t) := by
  refine nm_r (e' := nI (p - q)) (pk_sub hq) (pk_eq q 0 (fun z => ?_) (fun z => pk_lt (p - q) t (fun z2 => ?_) (fun z2 => ?_)))
  · have e : pr_sb p q t = 0 := if_pos (Or.inl z)
    rw [e] at H; exact H
  · have e : pr_sb p q t = (t - (p - q)) / p * q + ((t - (p - q)) % p - (p - q)) := if_neg (by omega)
    have hm : (t - (p - q)) % p < p := Nat.mod_lt _ hp
    rw [e, ← nI_add, ← pk_mul] at H
    refine nm_r (e' := nI (t - (p - q))) (pk_sub (by omega)) ⟨nI_ne0 hp (by omega), nm_r (e' := nI ((t - (p - q)) / p)) (pk_div (by omega) hp (by omega)) ⟨nI_ne0 hp (by omega), nm_r (e' := nI ((t - (p - q)) % p)) (pk_rem (by omega) hp (by omega)) (pk_le ((t - (p - q)) % p) (p - q) (fun z3 => ?_) (fun z3 => nm_r (e' := nI ((t - (p - q)) % p - (p - q))) (pk_sub (by omega)) H))⟩⟩
    rw [show (t - (p - q)) % p - (p - q) = 0 from by omega] at H
    exact H
  · have e : pr_sb p q t = 0 := if_pos (Or.inr z2)
    rw [e] at H; exact H
end PR04
