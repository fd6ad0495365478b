section PS40
variable {hz nw ad : Int32} {po ct sp sb pe wc re ex mi le : Nat → Int32}
/-! the calls that only read -/
theorem ps_xmiss {post : Int32 → Prop} {c : Nat} (hc : c < 4) (h : post (mi c)) : wpX_getMisses post (hz, nw, ad, po, ct, sp, sb, pe, wc, re, ex, mi, le) (nI c) := by
  have hcl : (nI c).toNatClampNeg = c := nI_clamp (by omega)
  unfold wpX_getMisses
  refine ps_xcomp hc (br_f pr_10 ⟨pr_i4 hc, ?_⟩)
  rw [hcl]; exact h
theorem ps_xgc0 {post : Int32 → Prop} {c : Nat} (hc : c < 4) (h : post (po c)) : wpX_getComponent post (hz, nw, ad, po, ct, sp, sb, pe, wc, re, ex, mi, le) (nI c) 0 := by
  have hcl : (nI c).toNatClampNeg = c := nI_clamp (by omega)
  unfold wpX_getComponent
  refine ps_xcomp hc (br_f pr_10 (br_f (by decide) (br_f (by decide) (br_t rfl ⟨pr_i4 hc, ?_⟩))))
  rw [hcl]; exact h
theorem ps_xgc1 {post : Int32 → Prop} {c : Nat} (hc : c < 4) (h : post (ct c)) : wpX_getComponent post (hz, nw, ad, po, ct, sp, sb, pe, wc, re, ex, mi, le) (nI c) 1 := by
  have hcl : (nI c).toNatClampNeg = c := nI_clamp (by omega)
  unfold wpX_getComponent
  refine ps_xcomp hc (br_f pr_10 (br_f (by decide) (br_f (by decide) (br_f (by decide) (br_t rfl ⟨pr_i4 hc, ?_⟩)))))
  rw [hcl]; exact h
theorem ps_xtask {post : Int32 → Prop} {c j k : Nat} (hc : c < 4) (hj : j < k) (hk : k ≤ 8) (hct : ct c = nI k) (h : post 1) : wpX_isTask post (hz, nw, ad, po, ct, sp, sb, pe, wc, re, ex, mi, le) (nI c) (nI j) := by
  have hcl : (nI c).toNatClampNeg = c := nI_clamp (by omega)
  have hcc : ct (nI c).toNatClampNeg = nI k := by rw [hcl]; exact hct
  unfold wpX_isTask
  exact ps_xcomp hc (br_f pr_10 (br_f (nI_pos (by omega)) ⟨pr_i4 hc, pk_le k j (fun z => absurd z (by omega)) (fun _ => h) hcc⟩))
theorem ps_xgt0 {post : Int32 → Prop} {c j k : Nat} (hc : c < 4) (hj : j < k) (hk : k ≤ 8) (hct : ct c = nI k) (h : post (pe (c * 8 + j))) : wpX_getTask post (hz, nw, ad, po, ct, sp, sb, pe, wc, re, ex, mi, le) (nI c) (nI j) 0 := by
  have hsl : (nI (c * 8 + j)).toNatClampNeg = c * 8 + j := nI_clamp (by omega)
  unfold wpX_getTask
  refine ps_xtask hc hj hk hct (br_f pr_10 (nm_r (e' := nI (c * 8 + j)) (pr_sl c j) (br_f (by decide) (br_f (by decide) (br_t rfl ⟨pr_i32 hc (by omega), ?_⟩)))))
  rw [hsl]; exact h
theorem ps_xdem {post : Int32 → Prop} {c k t : Nat} (hc : c < 4) (hk : k ≤ 8) (hct : ct c = nI k) (hp : ∀ i, i < k → ¬ pe (c * 8 + i) = 0) (ht : t ≤ 1000) (h : post (pr_dm pe wc (nI t) (c * 8) k)) :
    wpX_demandBound post (hz, nw, ad, po, ct, sp, sb, pe, wc, re, ex, mi, le) (nI c) (nI t) := by
  unfold wpX_demandBound
  exact ps_xcomp hc (br_f pr_10 (ps_xtime (by omega) (br_f pr_10 (pr_xdemand hc hk hct hp h))))
theorem ps_xreq {post : Int32 → Prop} {c j k t : Nat} (hc : c < 4) (hj : j < k) (hk : k ≤ 8) (hct : ct c = nI k) (hp : ∀ i, i < k → ¬ pe (c * 8 + i) = 0) (ht : t ≤ 1000) (h : post (pr_rq pe wc (nI t) (c * 8) (j + 1))) :
    wpX_requestBound post (hz, nw, ad, po, ct, sp, sb, pe, wc, re, ex, mi, le) (nI c) (nI j) (nI t) := by
  unfold wpX_requestBound
  exact ps_xtask hc hj hk hct (br_f pr_10 (ps_xtime (by omega) (br_f pr_10 (pr_xrequest hc (by omega) (fun i hi => hp i (by omega)) h))))
theorem ps_xsup {post : Int32 → Prop} {p q t : Nat} (hp : 1 ≤ p) (hp2 : p ≤ 32) (hq : q ≤ p) (ht : t ≤ 1000) (h : post (nI (pr_sb p q t))) :
    wpX_supplyBound post (hz, nw, ad, po, ct, sp, sb, pe, wc, re, ex, mi, le) (nI p) (nI q) (nI t) := by
  unfold wpX_supplyBound
  exact ps_xper hp hp2 (br_f pr_10 (br_f (nI_pos (by omega)) (br_f (nI_nlt hq (by omega)) (ps_xtime (by omega) (br_f pr_10 (pr_xsup hp hp2 hq (by omega) h))))))
/-! the law: no misses -/
variable {post : Int32 → Prop} {L : Nat} {xs : Nat → Int32} {J : Int32 → Int32 → Int32 → Int32 → (Nat → Int32) → (Nat → Int32) → (Nat → Int32) → (Nat → Int32) → (Nat → Int32) → (Nat → Int32) → (Nat → Int32) → (Nat → Int32) → (Nat → Int32) → (Nat → Int32) → Prop} {J196 J334 : Int32 → Prop} {x2 x3 x10 x11 x13 : Int32} {kc ks : Nat}
theorem ps_l500 (hm : ∀ c, c < 4 → mi c = 0) (HJ : J (x3 + 4) hz nw ad po ct sp sb pe wc re ex mi le) :
    ∀ d c, c + d = 4 → wL_law_500 post L xs J x2 x3 kc ks hz nw ad po ct sp sb pe wc re ex mi le (d + 1) (nI c) := by
  intro d
  induction d with
  | zero =>
    intro c hc
    exact pk_le 4 c (fun _ => nm_e HJ) (fun z => absurd z (by omega))
  | succ d ih =>
    intro c hc
    exact pk_le 4 c (fun z => absurd z (by omega)) (fun _ => ps_xmiss (by omega) (br_t (hm c (by omega)) (nm_r (nI_1 c) (ih (c + 1) (by omega)))))
theorem ps_l490 (O : ps_Ok hz nw ad po ct sp sb pe wc re mi le) (HJ : J (x3 + 4) hz nw ad po ct sp sb pe wc re ex mi le) : wL_law_490 post L xs J x2 x3 kc ks hz nw ad po ct sp sb pe wc re ex mi le := by
  obtain ⟨H, n, h1, h2, h3, rfl, rfl, A, B⟩ := O
  unfold wL_law_490
  cases B with
  | inl a =>
    subst a
    exact ⟨rfl, br_t rfl (nm_e HJ)⟩
  | inr B =>
    obtain ⟨a, hm, -⟩ := B
    subst a
    exact ⟨rfl, br_f pr_10 ⟨5, ps_l500 hm HJ 4 0 (by omega)⟩⟩
/-! the law: covering told anew -/
theorem ps_l431 {x8 x9 x14 : Int32} (h : x14 = x13) (HJ : J196 (x11 + 1)) : wL_law_431 post L xs J J196 x2 x3 x8 x9 x10 x11 x13 x14 kc ks hz nw ad po ct sp sb pe wc re ex mi le :=
  br_t h (nm_e HJ)
theorem ps_l280 {H c k p q : Nat} (hH : H ≤ 256) (hc : c < 4) (hk : k ≤ 8) (hct : ct c = nI k) (hpe : ∀ i, i < k → ¬ pe (c * 8 + i) = 0) (hp : 1 ≤ p) (hp2 : p ≤ 32) (hq : q ≤ p) (HJ : J196 (x11 + 1)) :
    ∀ d i, i + d = H + 1 → pr_b (pr_all (pr_fD pe wc c k p q) i d) = x13 → wL_law_280 post L xs J J196 (nI H) x3 (nI c) (nI p) x10 x11 (nI q) x13 1 kc ks hz nw ad po ct sp sb pe wc re ex mi le (d + 1) (nI i) := by
  intro d
  induction d with
  | zero =>
    intro i hi e
    exact pk_lt H i (fun _ => ps_l431 e HJ) (fun z => absurd z (by omega))
  | succ d ih =>
    intro i hi e
    refine pk_lt H i (fun z => absurd z (by omega)) (fun _ => ps_xdem hc hk hct hpe (by omega) (ps_xsup hp hp2 hq (by omega) (br_c (fun z => nm_r (nI_1 i) (ih (i + 1) (by omega) ?_)) (fun z => ps_l431 ?_ HJ))))
    · rw [pr_all_t (decide_eq_true z)] at e; exact e
    · rw [pr_all_f (decide_eq_false z)] at e; exact e
theorem ps_l365 {T c j k p q : Nat} {x12 x14 x16 : Int32} (hT : T ≤ 64) (hc : c < 4) (hj : j < k) (hk : k ≤ 8) (hct : ct c = nI k) (hpe : ∀ i, i < k → ¬ pe (c * 8 + i) = 0) (hp : 1 ≤ p) (hp2 : p ≤ 32) (hq : q ≤ p) (h12 : x12 = nI q) (HJ : J196 (x11 + 1)) :
    ∀ d i, i + d = T + 1 → (pr_any (pr_fT pe wc c p q j) i d = false → 0 = x13) → (pr_any (pr_fT pe wc c p q j) i d = true → J334 (nI (j + 1))) →
      wL_law_365 post L xs J J196 J334 x2 x3 (nI c) (nI p) x10 x11 x12 x13 x14 x16 (nI j) (nI T) 0 kc ks hz nw ad po ct sp sb pe wc re ex mi le (d + 1) (nI i) := by
  subst h12
  intro d
  induction d with
  | zero =>
    intro i hi e0 e1
    exact pk_lt T i (fun _ => br_t rfl (ps_l431 (e0 rfl) HJ)) (fun z => absurd z (by omega))
  | succ d ih =>
    intro i hi e0 e1
    refine pk_lt T i (fun z => absurd z (by omega)) (fun _ => pk_lt 64 i (fun z => absurd z (by omega)) (fun _ => ps_xreq hc hj hk hct hpe (by omega) (ps_xsup hp hp2 hq (by omega) (br_c (fun z => nm_r (nI_1 i) (ih (i + 1) (by omega) ?_ ?_)) (fun z => br_f pr_10 (nm_r (nI_1 j) (e1 ?_)))))))
    · rw [pr_any_f (decide_eq_false (fun y => y z))] at e0; exact e0
    · rw [pr_any_f (decide_eq_false (fun y => y z))] at e1; exact e1
    · exact pr_any_t (decide_eq_true z)
theorem ps_l334 {c k p q : Nat} (hc : c < 4) (hk : k ≤ 8) (hct : ct c = nI k) (hpe : ∀ i, i < k → ∃ p, 1 ≤ p ∧ p ≤ 64 ∧ pe (c * 8 + i) = nI p) (hp : 1 ≤ p) (hp2 : p ≤ 32) (hq : q ≤ p) (HJ : J196 (x11 + 1)) :
    ∀ d j, j + d = k → pr_b (pr_all (pr_fF pe wc c p q) j d) = x13 → wL_law_334 post L xs J J196 x2 x3 (nI c) (nI p) x10 x11 (nI q) x13 1 (nI k) kc ks hz nw ad po ct sp sb pe wc re ex mi le (d + 1) (nI j) := by
  intro d
  induction d with
  | zero =>
    intro j hj e
    exact pk_le k j (fun _ => ps_l431 e HJ) (fun z => absurd z (by omega))
  | succ d ih =>
    intro j hj e
    obtain ⟨T, h1, hT, eT⟩ := hpe j (by omega)
    have eF : pr_fF pe wc c p q j = pr_any (pr_fT pe wc c p q j) 1 T := by
      show pr_any (pr_fT pe wc c p q j) 1 (pr_K pe (c * 8 + j)) = _
      rw [pr_Ke eT (by omega)]
    refine pk_le k j (fun z => absurd z (by omega)) (fun _ => pk_le 8 j (fun z => absurd z (by omega)) (fun _ => ps_xgt0 hc (by omega) hk hct ?_))
    rw [eT]
    refine ⟨T + 1, ps_l365 hT hc (by omega) hk hct (pr_nz hpe) hp hp2 hq rfl HJ T 1 (by omega) (fun y => ?_) (fun y => ?_)⟩
    · rw [pr_all_f (eF.trans y)] at e; exact e
    · rw [pr_all_t (eF.trans y)] at e
      exact ih (j + 1) (by omega) e
theorem ps_l260 {H c k p q : Nat} (hH : H ≤ 256) (hc : c < 4) (hpo : po c = 0 ∨ po c = 1) (hk : k ≤ 8) (hct : ct c = nI k) (hpe : ∀ i, i < k → ∃ p, 1 ≤ p ∧ p ≤ 64 ∧ pe (c * 8 + i) = nI p) (hp : 1 ≤ p) (hp2 : p ≤ 32) (hq : q ≤ p)
    (e : pr_b (pr_cv po pe wc H c k p q) = x13) (HJ : J196 (x11 + 1)) : wL_law_260 post L xs J J196 (nI H) x3 (nI c) (nI p) x10 x11 (nI q) x13 kc ks hz nw ad po ct sp sb pe wc re ex mi le := by
  unfold wL_law_260
  refine ps_xgc0 hc ?_
  cases hpo with
  | inl h =>
    have e2 : pr_cv po pe wc H c k p q = pr_all (pr_fD pe wc c k p q) 1 H := if_neg (by rw [h]; decide)
    rw [e2] at e
    exact br_t h ⟨H + 1, ps_l280 hH hc hk hct (pr_nz hpe) hp hp2 hq HJ H 1 (by omega) e⟩
  | inr h =>
    have e2 : pr_cv po pe wc H c k p q = pr_all (pr_fF pe wc c p q) 0 k := if_pos h
    rw [e2] at e
    refine br_f (by rw [h]; decide) (ps_xgc1 hc ?_)
    rw [hct]
    exact ⟨k + 1, ps_l334 hc hk hct hpe hp hp2 hq HJ k 0 (by omega) e⟩
/-! the law: after computeInterface -/
theorem ps_l196N {H c k p : Nat} (hH : H ≤ 256) (hc : c < 4) (hpo : po c = 0 ∨ po c = 1) (hk : k ≤ 8) (hct : ct c = nI k) (hpe : ∀ i, i < k → ∃ p, 1 ≤ p ∧ p ≤ 64 ∧ pe (c * 8 + i) = nI p) (hp : 1 ≤ p) (hp2 : p ≤ 32)
    (e : pr_cv po pe wc H c k p p = false) (W : wL_law_490 post L xs J (nI H) x3 kc ks hz nw ad po ct sp sb pe wc re ex mi le) :
    wL_law_196 post L xs J (nI H) x3 (nI c) (nI p) (-2) kc ks hz nw ad po ct sp sb pe wc re ex mi le 2 0 := by
  refine pk_le 2 0 (fun z => absurd z (by omega)) (fun _ => br_t rfl (br_f (by decide) (ps_l260 hH hc hpo hk hct hpe hp hp2 (Nat.le_refl _) (by rw [e]; rfl) ?_)))
  exact pk_le 2 1 (fun z => absurd z (by omega)) (fun _ => br_t rfl (br_t (by decide) W))
theorem ps_l196S {H c k p q : Nat} (hH : H ≤ 256) (hc : c < 4) (hpo : po c = 0 ∨ po c = 1) (hk : k ≤ 8) (hct : ct c = nI k) (hpe : ∀ i, i < k → ∃ p, 1 ≤ p ∧ p ≤ 64 ∧ pe (c * 8 + i) = nI p) (hp : 1 ≤ p) (hp2 : p ≤ 32) (hq : q ≤ p)
    (e : pr_cv po pe wc H c k p q = true) (f : ∀ x, x < q → pr_cv po pe wc H c k p x = false) (W : wL_law_490 post L xs J (nI H) x3 kc ks hz nw ad po ct sp sb pe wc re ex mi le) :
    wL_law_196 post L xs J (nI H) x3 (nI c) (nI p) (nI q) kc ks hz nw ad po ct sp sb pe wc re ex mi le 3 0 := by
  refine pk_le 2 0 (fun z => absurd z (by omega)) (fun _ => br_f (pr_ansne (by omega)) (br_t rfl (ps_l260 hH hc hpo hk hct hpe hp hp2 hq (by rw [e]; rfl) ?_)))
  refine pk_le 2 1 (fun z => absurd z (by omega)) (fun _ => br_f (pr_ansne (by omega)) (br_f (by decide) (pk_eq q 0 (fun z => W) (fun z => ?_))))
  obtain ⟨m, rfl⟩ : ∃ m, q = m + 1 := ⟨q - 1, by omega⟩
  refine nm_r (e' := nI m) (nI_pred m) (ps_l260 hH hc hpo hk hct hpe hp hp2 (by omega) (by rw [f m (by omega)]; rfl) ?_)
  exact pk_le 2 2 (fun _ => W) (fun z => absurd z (by omega))
/-! the law: its loop -/
theorem ps_cell {P : Int32 → Prop} {i : Nat} {y : Int32} (hL : L ≤ 260) (hi : i ≤ 1000) (hy : y = nI i) (h : ∀ r, P r) : wpL_cell P L xs () y := by
  subst hy
  exact pk_le L i (fun _ => h _) (fun z => ⟨vp_in_nI z (by omega), h _⟩)
theorem ps_l24 (hL : L ≤ 260) (hpost : post 1) : ∀ d i, L ≤ i + 4 * d → i ≤ 600 → ∀ (nw ad : Int32) (po ct sp sb pe wc re ex mi le : Nat → Int32), ps_Ok hz nw ad po ct sp sb pe wc re mi le →
    wL_law_24 post L xs hz kc ks (d + 1) (nI i) hz nw ad po ct sp sb pe wc re ex mi le := by
  intro d
  induction d with
  | zero =>
    intro i h1 h2 nw ad po ct sp sb pe wc re ex mi le O
    exact pk_le L i (fun _ => hpost) (fun z => absurd z (by omega))
  | succ d ih =>
    intro i h1 h2 nw ad po ct sp sb pe wc re ex mi le O
    by_cases hi : L ≤ i
    · exact pk_le L i (fun _ => hpost) (fun z => absurd z (by omega))
    have N : ∀ (nw ad : Int32) (po ct sp sb pe wc re ex mi le : Nat → Int32), ps_Ok hz nw ad po ct sp sb pe wc re mi le → wL_law_490 post L xs (wL_law_24 post L xs hz kc ks (d + 1)) hz (nI i) kc ks hz nw ad po ct sp sb pe wc re ex mi le := by
      intro nw ad po ct sp sb pe wc re ex mi le O'
      refine ps_l490 O' ?_
      rw [show nI i + 4 = nI (i + 4) from nI_add i 4]
      exact ih (i + 4) (by omega) (by omega) nw ad po ct sp sb pe wc re ex mi le O'
    refine pk_le L i (fun z => absurd z hi) (fun _ => ps_cell hL (i := i) (by omega) rfl (fun r0 => nm_e (ps_cell hL (i := i + 1) (by omega) (nI_add i 1) (fun r1 => ps_cell hL (i := i + 2) (by omega) (nI_add i 2) (fun r2 => ps_cell hL (i := i + 3) (by omega) (nI_add i 3) (fun r3 => br_c (fun _ => br_c (fun _ => ?_) (fun _ => br_c (fun _ => ?_) (fun _ => br_c (fun _ => ?_) (fun _ => br_c (fun _ => ?_) (fun _ => ?_))))) (fun _ => ?_)))))))
    · obtain ⟨c, hc, e⟩ := pk_andE r1 (m := 3) 2 (by decide)
      obtain ⟨b, hb, e2⟩ := pk_andE r2 (m := 1) 1 (by decide)
      rw [e, e2]
      refine ps_xpol (by omega) ?_ O (fun r nw' ad' po' ct' sp' sb' pe' wc' re' ex' mi' le' O' => N _ _ _ _ _ _ _ _ _ _ _ _ O')
      have hb2 : b = 0 ∨ b = 1 := by omega
      cases hb2 with
      | inl h => subst h; exact Or.inl rfl
      | inr h => subst h; exact Or.inr rfl
    · obtain ⟨c, hc, e⟩ := pk_andE r1 (m := 3) 2 (by decide)
      rw [e]
      exact ps_xrem (by omega) O (fun r nw' ad' po' ct' sp' sb' pe' wc' re' ex' mi' le' O' => N _ _ _ _ _ _ _ _ _ _ _ _ O')
    · obtain ⟨c, hc, e⟩ := pk_andE r1 (m := 3) 2 (by decide)
      obtain ⟨b, hb, e2⟩ := pk_andE r2 (m := 31) 5 (by decide)
      refine nm_r e (nm_r (e' := nI (1 + b)) (by rw [e2]; exact nI_add 1 b) ?_)
      obtain ⟨H, n, g1, g2, g3, rfl, rfl, A, -⟩ := O
      obtain ⟨hpo, ⟨k, hk, hct, hpe⟩, -⟩ := ps_anyC A c (by omega)
      refine ps_xci (by omega) (by omega) (by omega) g1 g2 hk hct A (fun f sp' sb' re' ex' mi' le' A' => ?_) (fun q hq f1 f2 sp' sb' re' ex' mi' le' A' => ?_)
      · exact br_f (by decide) (br_t rfl ⟨2, ps_l196N g2 (by omega) hpo hk hct hpe (by omega) (by omega) f (N _ _ _ _ _ _ _ _ _ _ _ _ (ps_ok0 g1 g2 A'))⟩)
      · exact br_t (nI_pos' (by omega)) ⟨3, ps_l196S g2 (by omega) hpo hk hct hpe (by omega) (by omega) hq f1 f2 (N _ _ _ _ _ _ _ _ _ _ _ _ (ps_ok0 g1 g2 A'))⟩
    · obtain ⟨b, hb, e⟩ := pk_andE r3 (m := 255) 8 (by decide)
      refine ps_xadm O (fun r nw' ad' po' ct' sp' sb' pe' wc' re' ex' mi' le' O' => ?_)
      rw [e, show 1 + nI b = nI (1 + b) from nI_add 1 b]
      exact ps_xrunO (by omega) (by omega) O' (fun r nw' ad' po' ct' sp' sb' pe' wc' re' ex' mi' le' O' => N _ _ _ _ _ _ _ _ _ _ _ _ O')
    · obtain ⟨b, hb, e⟩ := pk_andE r3 (m := 255) 8 (by decide)
      rw [e, show 1 + nI b = nI (1 + b) from nI_add 1 b]
      exact ps_xrunO (by omega) (by omega) O (fun r nw' ad' po' ct' sp' sb' pe' wc' re' ex' mi' le' O' => N _ _ _ _ _ _ _ _ _ _ _ _ O')
    · obtain ⟨c, hc, e⟩ := pk_andE r1 (m := 1) 1 (by decide)
      obtain ⟨b, hb, e2⟩ := pk_andE r2 (m := 63) 6 (by decide)
      obtain ⟨f, hf, e3⟩ := pk_andE r3 (m := 7) 3 (by decide)
      have hm := Nat.mod_lt f (show 0 < 1 + b by omega)
      refine nm_r (e' := nI (1 + b)) (by rw [e2]; exact nI_add 1 b) ⟨nI_ne0 (by omega) (by omega), nm_r (e' := nI (1 + f % (1 + b))) (by rw [e3, pk_rem (by omega) (by omega) (by omega)]; exact nI_add 1 _) ?_⟩
      rw [e]
      exact ps_xadd (by omega) (by omega) (by omega) (by omega) (by omega) O (fun r nw' ad' po' ct' sp' sb' pe' wc' re' ex' mi' le' O' => N _ _ _ _ _ _ _ _ _ _ _ _ O')
end PS40
