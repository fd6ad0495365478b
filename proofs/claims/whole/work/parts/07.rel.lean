section PR07
/-- both keep the same fields and arrays, in ranges -/
def i_Rel (_ : Nat) (u : SX) (v : SY) : Prop :=
  ∃ (hz nw ad : Int32) (po ct sp sb pe wc re ex mi le : Nat → Int32), u = (hz, nw, ad, po, ct, sp, sb, pe, wc, re, ex, mi, le) ∧ v = (hz, nw, ad, po, ct, sp, sb, mi, le, pe, wc, re, ex) ∧ pr_Inv hz nw ad po ct sp sb pe
theorem i_up {k : Nat} {u : SX} {v : SY} (h : i_Rel k u v) : i_Rel (k + 4) u v := h
variable {hz nw ad : Int32} {po ct sp sb pe wc re ex mi le : Nat → Int32}
theorem pr_rel {k : Nat} (I : pr_Inv hz nw ad po ct sp sb pe) : i_Rel k (hz, nw, ad, po, ct, sp, sb, pe, wc, re, ex, mi, le) (hz, nw, ad, po, ct, sp, sb, mi, le, pe, wc, re, ex) :=
  ⟨hz, nw, ad, po, ct, sp, sb, pe, wc, re, ex, mi, le, rfl, rfl, I⟩
theorem pr_inv0 {H : Nat} (h1 : 64 ≤ H) (h2 : H ≤ 256) (ha : ad = 0 ∨ ad = 1) (I : ∀ c, c < 4 → pr_C po ct sp sb pe c) : pr_Inv (nI H) 0 ad po ct sp sb pe :=
  ⟨⟨H, 0, rfl, rfl, h1, h2, Nat.zero_le _⟩, ha, I⟩
theorem pr_C0 : ∀ c, c < 4 → pr_C (fun _ => 0) (fun _ => 0) (fun _ => 0) (fun _ => 0) (fun _ => 0) c := by
  intro c hc
  exact ⟨Or.inl rfl, ⟨0, by omega, rfl, fun i hi => absurd hi (by omega)⟩, ⟨0, 0, by omega, by omega, rfl, rfl⟩⟩
theorem i_vc0 (k0 : Int32) : wpX_init (fun u => wpY_init (fun v => i_Rel 1 u v) k0) k0 := by
  by_cases a : (64 : Int32) ≤ k0
  · by_cases b : k0 ≤ 256
    · have n0 : ¬ k0 < 0 := fun z => absurd (Int32.lt_of_le_of_lt a z) (by decide)
      obtain ⟨H, hH, rfl⟩ := nI_of n0
      have h1 : 64 ≤ H := (nI_leI (a := 64) (by omega) hH).mp a
      have h2 : H ≤ 256 := (nI_leI (b := 256) hH (by omega)).mp b
      unfold wpX_init
      refine br_t a (br_t b ?_)
      refine pr_xinval pr_C0 ?_
      exact br_t a (br_t b (pr_yreset pr_C0 (pr_rel (pr_inv0 h1 h2 (Or.inl rfl) pr_C0))))
    · unfold wpX_init
      refine br_t a (br_f b ?_)
      refine pr_xinval pr_C0 ?_
      exact br_t a (br_f b (pr_yreset pr_C0 (pr_rel (pr_inv0 (H := 256) (by omega) (by omega) (Or.inl rfl) pr_C0))))
  · unfold wpX_init
    refine br_f a ?_
    refine pr_xinval pr_C0 ?_
    exact br_f a (br_t (by decide) (pr_yreset pr_C0 (pr_rel (pr_inv0 (H := 64) (by omega) (by omega) (Or.inl rfl) pr_C0))))
/-! Y's component test, passed -/
theorem pr_yc {A B C : Prop} {c : Nat} (hc : c < 4) (b : B) : (nI c < 0 → A) ∧ (¬ nI c < 0 → (nI c ≤ 3 → B) ∧ (¬ nI c ≤ 3 → C)) :=
  br_f (nI_pos (by omega)) (br_t (nI_le (b := 3) (by omega) (by decide)) b)
theorem pr_yn {A B C : Prop} {x : Int32} (h : ¬ ∃ c, c < 4 ∧ x = nI c) (a : A) (c : C) : (x < 0 → A) ∧ (¬ x < 0 → (x ≤ 3 → B) ∧ (¬ x ≤ 3 → C)) :=
  pr_ycomp (fun _ => ⟨a, c⟩) (fun c hc e => absurd ⟨c, hc, e⟩ h)
/-! setPolicy -/
theorem pr_xsp18 {post : Int32 → SX → Prop} {c : Nat} {x : Int32} (hc : c < 4) (hx : x = 0 ∨ x = 1) (I : ∀ c, c < 4 → pr_C po ct sp sb pe c)
    (H : post 1 (hz, 0, 0, upd po c x, ct, upd sp c 0, upd sb c 0, pe, wc, pr_rsR wc ct re 4, pr_rsR (fun _ => 0) ct ex 4, pr_fill (fun _ => 0) mi 0 4, pr_fill (pr_rsL (upd sp c 0) (upd sb c 0)) le 0 4)) :
    wX_setPolicy_18 post (nI c) x hz nw ad po ct sp sb pe wc re ex mi le := by
  have hcl : (nI c).toNatClampNeg = c := nI_clamp (by omega)
  refine ⟨pr_i4 hc, nm_r (e' := upd po c x) (by rw [hcl]) ?_⟩
  refine pr_xrmif hc ?_
  exact pr_xinval (pr_C_rm (pr_C_pol hx I)) H
theorem pr_ysp22 {post : Int32 → SY → Prop} {c : Nat} {x : Int32} (hc : c < 4) (hx : x = 0 ∨ x = 1) (I : ∀ c, c < 4 → pr_C po ct sp sb pe c)
    (H : post 1 (hz, 0, 0, upd po c x, ct, upd sp c 0, upd sb c 0, pr_fill (fun _ => 0) mi 0 4, pr_fill (pr_rsL (upd sp c 0) (upd sb c 0)) le 0 4, pe, wc, pr_rsR wc ct re 4, pr_rsR (fun _ => 0) ct ex 4)) :
    wY_setPolicy_22 post (nI c) x hz nw ad po ct sp sb mi le pe wc re ex := by
  have hcl : (nI c).toNatClampNeg = c := nI_clamp (by omega)
  refine ⟨pr_i4 hc, nm_r (e' := upd po c x) (by rw [hcl]) ⟨pr_i4 hc, nm_r (e' := upd sp c 0) (by rw [hcl]) ⟨pr_i4 hc, nm_r (e' := upd sb c 0) (by rw [hcl]) ?_⟩⟩⟩
  exact pr_yreset (pr_C_rm (pr_C_pol hx I)) H
theorem i_vc_setPolicy {k : Nat} {u : SX} {v : SY} (I : i_Rel k u v) (hk : k + 4 ≤ 2049) (v1 : Int32) (v2 : Int32) : wpX_setPolicy (fun r u' => wpY_setPolicy (fun r' v' => r' = r ∧ i_Rel (k + 4) u' v') v v1 v2) u v1 v2 := by
  obtain ⟨hz, nw, ad, po, ct, sp, sb, pe, wc, re, ex, mi, le, rfl, rfl, J⟩ := I
  have R : i_Rel (k + 4) (hz, nw, ad, po, ct, sp, sb, pe, wc, re, ex, mi, le) (hz, nw, ad, po, ct, sp, sb, mi, le, pe, wc, re, ex) := pr_rel J
  obtain ⟨⟨H, t, rfl, rfl, h1, h2, h3⟩, ha, I⟩ := J
  unfold wpX_setPolicy
  refine pr_xcomp (fun z => br_t rfl (pr_yn z ⟨rfl, R⟩ ⟨rfl, R⟩)) (fun c hc e => br_f pr_10 ?_)
  subst e
  by_cases a : v2 = 0
  · refine br_t a (pr_xsp18 hc (Or.inl a) I ?_)
    exact pr_yc hc (br_t a (pr_ysp22 hc (Or.inl a) I ⟨rfl, pr_rel (pr_inv0 h1 h2 (Or.inl rfl) (pr_C_rm (pr_C_pol (Or.inl a) I)))⟩))
  · by_cases b : v2 = 1
    · refine br_f a (br_t b (pr_xsp18 hc (Or.inr b) I ?_))
      exact pr_yc hc (br_f a (br_t b (pr_ysp22 hc (Or.inr b) I ⟨rfl, pr_rel (pr_inv0 h1 h2 (Or.inl rfl) (pr_C_rm (pr_C_pol (Or.inr b) I)))⟩)))
    · exact br_f a (br_f b (pr_yc hc (br_f a (br_f b ⟨rfl, R⟩))))
/-! addTask -/
theorem i_vc_addTask {k : Nat} {u : SX} {v : SY} (I : i_Rel k u v) (hk : k + 4 ≤ 2049) (v1 : Int32) (v2 : Int32) (v3 : Int32) : wpX_addTask (fun r u' => wpY_addTask (fun r' v' => r' = r ∧ i_Rel (k + 4) u' v') v v1 v2 v3) u v1 v2 v3 := by
  obtain ⟨hz, nw, ad, po, ct, sp, sb, pe, wc, re, ex, mi, le, rfl, rfl, J⟩ := I
  have R : i_Rel (k + 4) (hz, nw, ad, po, ct, sp, sb, pe, wc, re, ex, mi, le) (hz, nw, ad, po, ct, sp, sb, mi, le, pe, wc, re, ex) := pr_rel J
  obtain ⟨⟨H, t, rfl, rfl, h1, h2, h3⟩, ha, I⟩ := J
  unfold wpX_addTask
  refine pr_xcomp (fun z => br_t rfl (pr_yn z ⟨rfl, R⟩ ⟨rfl, R⟩)) (fun c hc e => br_f pr_10 ?_)
  subst e
  have hcl : (nI c).toNatClampNeg = c := nI_clamp (by omega)
  by_cases a1 : v2 < 1
  · exact br_t a1 (pr_yc hc (br_t a1 ⟨rfl, R⟩))
  refine br_f a1 ?_
  by_cases a2 : 64 < v2
  · exact br_t a2 (pr_yc hc (br_f a1 (br_f (Int32.not_le.mpr a2) ⟨rfl, R⟩)))
  have a2' : v2 ≤ 64 := Int32.not_lt.mp a2
  refine br_f a2 ?_
  by_cases a3 : v3 < 1
  · exact br_t a3 (pr_yc hc (br_f a1 (br_t a2' (br_t a3 ⟨rfl, R⟩))))
  refine br_f a3 ?_
  by_cases a4 : v2 < v3
  · exact br_t a4 (pr_yc hc (br_f a1 (br_t a2' (br_f a3 (br_f (Int32.not_le.mpr a4) ⟨rfl, R⟩)))))
  have a4' : v3 ≤ v2 := Int32.not_lt.mp a4
  refine br_f a4 ?_
  obtain ⟨-, ⟨n, hn, hct, -⟩, -⟩ := I c hc
  have hcc : ct (nI c).toNatClampNeg = nI n := by rw [hcl]; exact hct
  refine ⟨pr_i4 hc, pk_lt n 8 (fun z => ?_) (fun z => ?_) hcc⟩
  · have n0 : ¬ v2 < 0 := fun z => a1 (Int32.lt_trans z (by decide))
    obtain ⟨p, hp, rfl⟩ := nI_of n0
    have hp1 : 1 ≤ p := by
      have h5 : ¬ nI p < nI 1 := a1
      rw [nI_ltI hp (by omega)] at h5
      omega
    have hp2 : p ≤ 64 := (nI_leI (b := 64) hp (by omega)).mp a2'
    have II : ∀ d, d < 4 → pr_C po (upd ct c (nI (n + 1))) (upd sp c 0) (upd sb c 0) (upd pe (c * 8 + n) (nI p)) d := pr_C_rm (pr_C_add hc z hct hp1 hp2 I)
    have hin : vp_in (nI (c * 8 + n)) 32 := pr_i32 hc z
    have hsl : (nI (c * 8 + n)).toNatClampNeg = c * 8 + n := nI_clamp (by omega)
    refine ⟨pr_i4 hc, nm_r (e' := nI n) hcc (nm_r (e' := nI (c * 8 + n)) (pr_sl c n) ⟨hin, nm_r (e' := upd pe (c * 8 + n) (nI p)) (by rw [hsl]) ⟨hin, nm_r (e' := upd wc (c * 8 + n) v3) (by rw [hsl]) ⟨pr_i4 hc, nm_r (e' := upd ct c (nI (n + 1))) (by rw [hcl, nI_1]) ?_⟩⟩⟩)⟩
    refine pr_xrmif hc ?_
    refine pr_xinval II ?_
    have hin' : vp_in (nI c * 8 + nI n) 32 := by rw [pr_sl]; exact hin
    have hsl' : (nI c * 8 + nI n).toNatClampNeg = c * 8 + n := by rw [pr_sl]; exact hsl
    exact pr_yc hc (br_f a1 (br_t a2' (br_f a3 (br_t a4' ⟨pr_i4 hc, pk_lt n 8 (fun _ => ⟨pr_i4 hc, nm_r (e' := nI n) hcc ⟨hin', nm_r (e' := upd pe (c * 8 + n) (nI p)) (by rw [hsl']) ⟨hin', nm_r (e' := upd wc (c * 8 + n) v3) (by rw [hsl']) ⟨pr_i4 hc, nm_r (e' := upd ct c (nI (n + 1))) (by rw [hcl, nI_1]) ⟨pr_i4 hc, nm_r (e' := upd sp c 0) (by rw [hcl]) ⟨pr_i4 hc, nm_r (e' := upd sb c 0) (by rw [hcl]) (pr_yreset II ⟨rfl, pr_rel (pr_inv0 h1 h2 (Or.inl rfl) II)⟩)⟩⟩⟩⟩⟩⟩) (fun y => absurd z (by omega)) hcc⟩))))
  · exact pr_yc hc (br_f a1 (br_t a2' (br_f a3 (br_t a4' ⟨pr_i4 hc, pk_lt n 8 (fun y => absurd y (by omega)) (fun _ => ⟨rfl, R⟩) hcc⟩))))
/-! removeLastTask -/
theorem i_vc_removeLastTask {k : Nat} {u : SX} {v : SY} (I : i_Rel k u v) (hk : k + 4 ≤ 2049) (v1 : Int32) : wpX_removeLastTask (fun r u' => wpY_removeLastTask (fun r' v' => r' = r ∧ i_Rel (k + 4) u' v') v v1) u v1 := by
  obtain ⟨hz, nw, ad, po, ct, sp, sb, pe, wc, re, ex, mi, le, rfl, rfl, J⟩ := I
  have R : i_Rel (k + 4) (hz, nw, ad, po, ct, sp, sb, pe, wc, re, ex, mi, le) (hz, nw, ad, po, ct, sp, sb, mi, le, pe, wc, re, ex) := pr_rel J
  obtain ⟨⟨H, t, rfl, rfl, h1, h2, h3⟩, ha, I⟩ := J
  unfold wpX_removeLastTask
  refine pr_xcomp (fun z => br_t rfl (pr_yn z ⟨rfl, R⟩ ⟨rfl, R⟩)) (fun c hc e => br_f pr_10 ?_)
  subst e
  have hcl : (nI c).toNatClampNeg = c := nI_clamp (by omega)
  obtain ⟨-, ⟨n, hn, hct, -⟩, -⟩ := I c hc
  have hcc : ct (nI c).toNatClampNeg = nI n := by rw [hcl]; exact hct
  refine ⟨pr_i4 hc, pk_le 1 n (fun z => ?_) (fun z => ?_) rfl hcc⟩
  · obtain ⟨m, rfl⟩ : ∃ m, n = m + 1 := ⟨n - 1, by omega⟩
    have II : ∀ d, d < 4 → pr_C po (upd ct c (nI m)) (upd sp c 0) (upd sb c 0) pe d := pr_C_rm (pr_C_sub hc hct (by omega) I)
    have hup : upd ct (nI c).toNatClampNeg (ct (nI c).toNatClampNeg - 1) = upd ct c (nI m) := by rw [hcc, hcl, nI_pred]
    refine ⟨pr_i4 hc, pr_i4 hc, nm_r (e' := upd ct c (nI m)) hup ?_⟩
    refine pr_xrmif hc ?_
    refine pr_xinval II ?_
    exact pr_yc hc ⟨pr_i4 hc, pk_le 1 (m + 1) (fun _ => ⟨pr_i4 hc, pr_i4 hc, nm_r (e' := upd ct c (nI m)) hup ⟨pr_i4 hc, nm_r (e' := upd sp c 0) (by rw [hcl]) ⟨pr_i4 hc, nm_r (e' := upd sb c 0) (by rw [hcl]) (pr_yreset II ⟨rfl, pr_rel (pr_inv0 h1 h2 (Or.inl rfl) II)⟩)⟩⟩⟩) (fun y => absurd y (by omega)) rfl hcc⟩
  · exact pr_yc hc ⟨pr_i4 hc, pk_le 1 n (fun y => absurd y (by omega)) (fun _ => ⟨rfl, R⟩) rfl hcc⟩
/-! computeInterface -/
theorem pr_xper {post : Int32 → Prop} {x : Int32} (h0 : ¬ (∃ p, 1 ≤ p ∧ p ≤ 32 ∧ x = nI p) → post 0) (h1 : ∀ p, 1 ≤ p → p ≤ 32 → x = nI p → post 1) : wpX_isInterfacePeriod post x := by
  refine br_c (fun z => h0 ?_) (fun z => br_c (fun z2 => h0 ?_) (fun z2 => ?_))
  · rintro ⟨p, hp, hp2, rfl⟩; exact nI_nlt (b := 1) hp (by omega) z
  · rintro ⟨p, hp, hp2, rfl⟩; exact nI_nlt (a := 32) hp2 (by omega) z2
  · have n0 : ¬ x < 0 := fun y => z (Int32.lt_trans y (by decide))
    obtain ⟨p, hp, rfl⟩ := nI_of n0
    have hp1 : 1 ≤ p := by
      have h5 : ¬ nI p < nI 1 := z
      rw [nI_ltI hp (by omega)] at h5
      omega
    have hp2 : p ≤ 32 := by
      have h5 : ¬ nI 32 < nI p := z2
      rw [nI_ltI (by omega) hp] at h5
      omega
    exact h1 p hp1 hp2 rfl
theorem pr_yper {A B C : Prop} {p : Nat} (hp : 1 ≤ p) (hp2 : p ≤ 32) (b : B) : (nI p < 1 → A) ∧ (¬ nI p < 1 → (nI p ≤ 32 → B) ∧ (¬ nI p ≤ 32 → C)) :=
  br_f (nI_nlt (b := 1) hp (by omega)) (br_t (nI_le (b := 32) hp2 (by decide)) b)
theorem pr_yper0 {A B C : Prop} {x : Int32} (h : ¬ ∃ p, 1 ≤ p ∧ p ≤ 32 ∧ x = nI p) (a : A) (c : C) : (x < 1 → A) ∧ (¬ x < 1 → (x ≤ 32 → B) ∧ (¬ x ≤ 32 → C)) := by
  refine br_c (fun _ => a) (fun z => br_c (fun z2 => ?_) (fun _ => c))
  exfalso
  have n0 : ¬ x < 0 := fun y => z (Int32.lt_trans y (by decide))
  obtain ⟨p, hp, rfl⟩ := nI_of n0
  have h5 : ¬ nI p < nI 1 := z
  rw [nI_ltI hp (by omega)] at h5
  have h6 : nI p ≤ nI 32 := z2
  rw [nI_leI hp (by omega)] at h6
  exact h ⟨p, by omega, h6, rfl⟩
theorem pr_m1n : ¬ (0 : Int32) ≤ -1 := by decide
theorem pr_ansne {q : Nat} (hq : q < 2 ^ 31) : ¬ nI q = -2 := by
  intro e
  have h := nI_pos (n := q) hq
  rw [e] at h
  exact h (by decide)
theorem pr_yci1 {post : Int32 → SY → Prop} {c p q : Nat} (hc : c < 4) (hp2 : p ≤ 32) (hq : q ≤ p) (I : ∀ c, c < 4 → pr_C po ct sp sb pe c)
    (H : post (nI q) (hz, 0, 0, po, ct, upd sp c (nI p), upd sb c (nI q), pr_fill (fun _ => 0) mi 0 4, pr_fill (pr_rsL (upd sp c (nI p)) (upd sb c (nI q))) le 0 4, pe, wc, pr_rsR wc ct re 4, pr_rsR (fun _ => 0) ct ex 4)) :
    ∀ d i, i + d = p + 1 → wY_computeInterface_29 post (nI c) (nI p) hz nw ad po ct sp sb mi le pe wc re ex (d + 1) (nI q) (nI i) := by
  have hcl : (nI c).toNatClampNeg = c := nI_clamp (by omega)
  intro d
  induction d with
  | zero =>
    intro i hi
    refine pk_lt p i (fun _ => br_f (nI_pos (by omega)) ⟨pr_i4 hc, nm_r (e' := upd sp c (nI p)) (by rw [hcl]) ⟨pr_i4 hc, nm_r (e' := upd sb c (nI q)) (by rw [hcl]) ?_⟩⟩) (fun z => absurd z (by omega))
    unfold wY_computeInterface_101
    exact pr_yreset (pr_C_if hp2 hq I) H
  | succ d ih =>
    intro i hi
    exact pk_lt p i (fun z => absurd z (by omega)) (fun _ => br_t (nI_pos' (by omega)) (nm_r (e' := nI (i + 1)) (nI_1 _) (ih (i + 1) (by omega))))
theorem pr_yci0 {post : Int32 → SY → Prop} {Hn c k p : Nat} (hH : Hn ≤ 256) (hc : c < 4) (hk : k ≤ 8) (hpo : po c = 0 ∨ po c = 1) (hct : ct c = nI k) (hpe : ∀ i, i < k → ∃ p, 1 ≤ p ∧ p ≤ 64 ∧ pe (c * 8 + i) = nI p) (hp : 1 ≤ p) (hp2 : p ≤ 32) (I : ∀ c, c < 4 → pr_C po ct sp sb pe c) :
    ∀ d i, i + d = p + 1 →
      (pr_ls (pr_cv po pe wc Hn c k p) i d = none → post (-2) (nI Hn, 0, 0, po, ct, upd sp c 0, upd sb c 0, pr_fill (fun _ => 0) mi 0 4, pr_fill (pr_rsL (upd sp c 0) (upd sb c 0)) le 0 4, pe, wc, pr_rsR wc ct re 4, pr_rsR (fun _ => 0) ct ex 4)) →
      (∀ q, pr_ls (pr_cv po pe wc Hn c k p) i d = some q → post (nI q) (nI Hn, 0, 0, po, ct, upd sp c (nI p), upd sb c (nI q), pr_fill (fun _ => 0) mi 0 4, pr_fill (pr_rsL (upd sp c (nI p)) (upd sb c (nI q))) le 0 4, pe, wc, pr_rsR wc ct re 4, pr_rsR (fun _ => 0) ct ex 4)) →
      wY_computeInterface_29 post (nI c) (nI p) (nI Hn) nw ad po ct sp sb mi le pe wc re ex (d + 1) (-1) (nI i) := by
  have hcl : (nI c).toNatClampNeg = c := nI_clamp (by omega)
  intro d
  induction d with
  | zero =>
    intro i hi H0 H1
    refine pk_lt p i (fun _ => br_t (by decide) ⟨pr_i4 hc, nm_r (e' := upd sp c 0) (by rw [hcl]) ⟨pr_i4 hc, nm_r (e' := upd sb c 0) (by rw [hcl]) ?_⟩⟩) (fun z => absurd z (by omega))
    unfold wY_computeInterface_101
    exact pr_yreset (pr_C_rm I) (H0 rfl)
  | succ d ih =>
    intro i hi H0 H1
    refine pk_lt p i (fun z => absurd z (by omega)) (fun _ => br_f pr_m1n (pr_ycv hH hc hk hpo hct hpe hp hp2 (by omega) ?_))
    cases e : pr_cv po pe wc Hn c k p i with
    | false =>
      rw [pr_ls_f e] at H0 H1
      exact br_t rfl (nm_r (e' := nI (i + 1)) (nI_1 _) (ih (i + 1) (by omega) H0 H1))
    | true =>
      rw [pr_ls_t e] at H1
      exact br_f pr_10 (nm_r (e' := nI (i + 1)) (nI_1 _) (pr_yci1 hc hp2 (by omega) I (H1 i rfl) d (i + 1) (by omega)))
theorem i_vc_computeInterface {k : Nat} {u : SX} {v : SY} (I : i_Rel k u v) (hk : k + 4 ≤ 2049) (v1 : Int32) (v2 : Int32) : wpX_computeInterface (fun r u' => wpY_computeInterface (fun r' v' => r' = r ∧ i_Rel (k + 4) u' v') v v1 v2) u v1 v2 := by
  obtain ⟨hz, nw, ad, po, ct, sp, sb, pe, wc, re, ex, mi, le, rfl, rfl, J⟩ := I
  have R : i_Rel (k + 4) (hz, nw, ad, po, ct, sp, sb, pe, wc, re, ex, mi, le) (hz, nw, ad, po, ct, sp, sb, mi, le, pe, wc, re, ex) := pr_rel J
  obtain ⟨⟨H, t, rfl, rfl, h1, h2, h3⟩, ha, I⟩ := J
  unfold wpX_computeInterface
  refine pr_xcomp (fun z => br_t rfl (pr_yn z ⟨rfl, R⟩ ⟨rfl, R⟩)) (fun c hc e => br_f pr_10 ?_)
  subst e
  have hcl : (nI c).toNatClampNeg = c := nI_clamp (by omega)
  refine pr_xper (fun z => br_t rfl (pr_yc hc (pr_yper0 z ⟨rfl, R⟩ ⟨rfl, R⟩))) (fun p hp hp2 e => br_f pr_10 ?_)
  subst e
  obtain ⟨hpo, ⟨n, hn, hct, hpe⟩, -⟩ := I c hc
  refine pr_xlb h2 hc hn hpo hct hpe hp hp2 ?_
  cases e : pr_ls (pr_cv po pe wc H c n p) 0 (p + 1) with
  | none =>
    refine br_t rfl (pr_xrmif hc ?_)
    refine pr_xinval (pr_C_rm I) ?_
    refine pr_yc hc (pr_yper hp hp2 ⟨p + 1 + 1, pr_yci0 h2 hc hn hpo hct hpe hp hp2 I (p + 1) 0 (by omega) (fun _ => ⟨rfl, pr_rel (pr_inv0 h1 h2 (Or.inl rfl) (pr_C_rm I))⟩) (fun q y => ?_)⟩)
    rw [e] at y
    cases y
  | some q =>
    have hq := pr_ls_in _ _ _ e
    refine br_f (pr_ansne (by omega)) ⟨pr_i4 hc, nm_r (e' := upd sp c (nI p)) (by rw [hcl]) ⟨pr_i4 hc, nm_r (e' := upd sb c (nI q)) (by rw [hcl]; rfl) ?_⟩⟩
    refine pr_xinval (pr_C_if hp2 (by omega) I) ?_
    refine pr_yc hc (pr_yper hp hp2 ⟨p + 1 + 1, pr_yci0 h2 hc hn hpo hct hpe hp hp2 I (p + 1) 0 (by omega) (fun y => ?_) (fun q' y => ?_)⟩)
    · rw [e] at y
      cases y
    · rw [e] at y
      cases y
      exact ⟨rfl, pr_rel (pr_inv0 h1 h2 (Or.inl rfl) (pr_C_if hp2 (by omega) I))⟩
end PR07
