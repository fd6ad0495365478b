section PS39
/-! what the law keeps between its steps -/
def ps_Ok (hz nw ad : Int32) (po ct sp sb pe wc re mi le : Nat → Int32) : Prop :=
  ∃ H n : Nat, 64 ≤ H ∧ H ≤ 256 ∧ n ≤ H ∧ hz = nI H ∧ nw = nI n ∧ ps_Any H po ct sp sb pe wc ∧
    (ad = 0 ∨ (ad = 1 ∧ (∀ c, c < 4 → mi c = 0) ∧ ∃ (P Q K : Nat → Nat) (T C : Nat → Nat → Nat), ps_St H po ct sp sb pe wc P Q K T C ∧ ps_Dy H n po re le P Q K T C))
variable {hz nw ad : Int32} {po ct sp sb pe wc re ex mi le : Nat → Int32}
theorem ps_ok0 {H : Nat} (h1 : 64 ≤ H) (h2 : H ≤ 256) (A : ps_Any H po ct sp sb pe wc) : ps_Ok (nI H) 0 0 po ct sp sb pe wc re mi le :=
  ⟨H, 0, h1, h2, Nat.zero_le _, rfl, rfl, A, Or.inl rfl⟩
/-! a component's number is one -/
theorem ps_xcomp {post : Int32 → Prop} {c : Nat} (hc : c < 4) (h : post 1) : wpX_isComponent post () (nI c) :=
  pr_xcomp (fun z => absurd ⟨c, hc, rfl⟩ z) (fun _ _ _ => h)
theorem ps_xper {post : Int32 → Prop} {p : Nat} (hp : 1 ≤ p) (hp2 : p ≤ 32) (h : post 1) : wpX_isInterfacePeriod post () (nI p) :=
  pr_xper (fun z => absurd ⟨p, hp, hp2, rfl⟩ z) (fun _ _ _ _ => h)
theorem ps_xtime {post : Int32 → Prop} {t : Nat} (ht : t ≤ 100000) (h : post 1) : wpX_isBoundTime post () (nI t) :=
  pr_xtime (fun z => absurd ⟨t, ht, rfl⟩ z) (fun _ _ _ => h)
/-! the calls that change -/
theorem ps_xpol {post : Int32 → St2 → Prop} {c : Nat} {x : Int32} (hc : c < 4) (hx : x = 0 ∨ x = 1) (O : ps_Ok hz nw ad po ct sp sb pe wc re mi le)
    (Hp : ∀ r nw' ad' po' ct' sp' sb' pe' wc' re' ex' mi' le', ps_Ok hz nw' ad' po' ct' sp' sb' pe' wc' re' mi' le' → post r (hz, nw', ad', po', ct', sp', sb', pe', wc', re', ex', mi', le')) :
    wpX_setPolicy post (hz, nw, ad, po, ct, sp, sb, pe, wc, re, ex, mi, le) (nI c) x := by
  obtain ⟨H, n, h1, h2, h3, rfl, rfl, A, -⟩ := O
  unfold wpX_setPolicy
  refine ps_xcomp hc (br_f pr_10 ?_)
  have W : wX_setPolicy_18 post (nI c) x (nI H) (nI n) ad po ct sp sb pe wc re ex mi le := pr_xsp18 hc hx (ps_anyC A) (Hp _ _ _ _ _ _ _ _ _ _ _ _ _ (ps_ok0 h1 h2 (ps_anyPol hc hx A)))
  cases hx with
  | inl a => exact br_t a W
  | inr a => exact br_f (by rw [a]; decide) (br_t a W)
theorem ps_xadd {post : Int32 → St2 → Prop} {c p w : Nat} (hc : c < 4) (hp : 1 ≤ p) (hp2 : p ≤ 64) (hw : 1 ≤ w) (hw2 : w ≤ p) (O : ps_Ok hz nw ad po ct sp sb pe wc re mi le)
    (Hp : ∀ r nw' ad' po' ct' sp' sb' pe' wc' re' ex' mi' le', ps_Ok hz nw' ad' po' ct' sp' sb' pe' wc' re' mi' le' → post r (hz, nw', ad', po', ct', sp', sb', pe', wc', re', ex', mi', le')) :
    wpX_addTask post (hz, nw, ad, po, ct, sp, sb, pe, wc, re, ex, mi, le) (nI c) (nI p) (nI w) := by
  have R := O
  obtain ⟨H, n, h1, h2, h3, rfl, rfl, A, -⟩ := O
  have hcl : (nI c).toNatClampNeg = c := nI_clamp (by omega)
  unfold wpX_addTask
  refine ps_xcomp hc (br_f pr_10 ?_)
  refine br_f (nI_nlt (b := 1) hp (by omega)) (br_f (nI_nlt (a := 64) hp2 (by omega)) (br_f (nI_nlt (b := 1) hw (by omega)) (br_f (nI_nlt hw2 (by omega)) ?_)))
  obtain ⟨-, ⟨k, hk, hct, -⟩, -⟩ := ps_anyC A c hc
  have hcc : ct (nI c).toNatClampNeg = nI k := by rw [hcl]; exact hct
  refine ⟨pr_i4 hc, pk_lt k 8 (fun z => ?_) (fun z => Hp _ _ _ _ _ _ _ _ _ _ _ _ _ R) hcc⟩
  have II := ps_anyAdd hc z hct hp hp2 (show w ≤ 64 by omega) A
  have hin : vp_in (nI (c * 8 + k)) 32 := pr_i32 hc z
  have hsl : (nI (c * 8 + k)).toNatClampNeg = c * 8 + k := nI_clamp (by omega)
  refine ⟨pr_i4 hc, nm_r (e' := nI k) hcc (nm_r (e' := nI (c * 8 + k)) (pr_sl c k) ⟨hin, nm_r (e' := upd pe (c * 8 + k) (nI p)) (by rw [hsl]) ⟨hin, nm_r (e' := upd wc (c * 8 + k) (nI w)) (by rw [hsl]) ⟨pr_i4 hc, nm_r (e' := upd ct c (nI (k + 1))) (by rw [hcl, nI_1]) ?_⟩⟩⟩)⟩
  refine pr_xrmif hc ?_
  refine pr_xinval (ps_anyC II) ?_
  exact Hp _ _ _ _ _ _ _ _ _ _ _ _ _ (ps_ok0 h1 h2 II)
theorem ps_xrem {post : Int32 → St2 → Prop} {c : Nat} (hc : c < 4) (O : ps_Ok hz nw ad po ct sp sb pe wc re mi le)
    (Hp : ∀ r nw' ad' po' ct' sp' sb' pe' wc' re' ex' mi' le', ps_Ok hz nw' ad' po' ct' sp' sb' pe' wc' re' mi' le' → post r (hz, nw', ad', po', ct', sp', sb', pe', wc', re', ex', mi', le')) :
    wpX_removeLastTask post (hz, nw, ad, po, ct, sp, sb, pe, wc, re, ex, mi, le) (nI c) := by
  have R := O
  obtain ⟨H, n, h1, h2, h3, rfl, rfl, A, -⟩ := O
  have hcl : (nI c).toNatClampNeg = c := nI_clamp (by omega)
  unfold wpX_removeLastTask
  refine ps_xcomp hc (br_f pr_10 ?_)
  obtain ⟨-, ⟨k, hk, hct, -⟩, -⟩ := ps_anyC A c hc
  have hcc : ct (nI c).toNatClampNeg = nI k := by rw [hcl]; exact hct
  refine ⟨pr_i4 hc, pk_le 1 k (fun z => ?_) (fun z => Hp _ _ _ _ _ _ _ _ _ _ _ _ _ R) rfl hcc⟩
  obtain ⟨m, rfl⟩ : ∃ m, k = m + 1 := ⟨k - 1, by omega⟩
  have II := ps_anySub hc hct (by omega) A
  have hup : upd ct (nI c).toNatClampNeg (ct (nI c).toNatClampNeg - 1) = upd ct c (nI m) := by rw [hcc, hcl, nI_pred]
  refine ⟨pr_i4 hc, pr_i4 hc, nm_r (e' := upd ct c (nI m)) hup ?_⟩
  refine pr_xrmif hc ?_
  refine pr_xinval (ps_anyC II) ?_
  exact Hp _ _ _ _ _ _ _ _ _ _ _ _ _ (ps_ok0 h1 h2 II)
theorem ps_xci {post : Int32 → St2 → Prop} {H c k p : Nat} (hc : c < 4) (hp : 1 ≤ p) (hp2 : p ≤ 32) (h1 : 64 ≤ H) (h2 : H ≤ 256) (hk : k ≤ 8) (hct : ct c = nI k) (A : ps_Any H po ct sp sb pe wc)
    (H0 : pr_cv po pe wc H c k p p = false → ∀ sp' sb' re' ex' mi' le', ps_Any H po ct sp' sb' pe wc → post (-2) (nI H, 0, 0, po, ct, sp', sb', pe, wc, re', ex', mi', le'))
    (H1 : ∀ q, q ≤ p → pr_cv po pe wc H c k p q = true → (∀ x, x < q → pr_cv po pe wc H c k p x = false) → ∀ sp' sb' re' ex' mi' le', ps_Any H po ct sp' sb' pe wc → post (nI q) (nI H, 0, 0, po, ct, sp', sb', pe, wc, re', ex', mi', le')) :
    wpX_computeInterface post (nI H, nw, ad, po, ct, sp, sb, pe, wc, re, ex, mi, le) (nI c) (nI p) := by
  have hcl : (nI c).toNatClampNeg = c := nI_clamp (by omega)
  obtain ⟨hpo, ⟨n, hn, hct2, hpe⟩, -⟩ := ps_anyC A c hc
  have en : n = k := (nI_eq (by omega) (by omega)).mp (hct2.symm.trans hct)
  subst en
  unfold wpX_computeInterface
  refine ps_xcomp hc (br_f pr_10 ?_)
  refine ps_xper hp hp2 (br_f pr_10 ?_)
  refine pr_xlb h2 hc hn hpo hct2 hpe hp hp2 ?_
  cases e : pr_ls (pr_cv po pe wc H c n p) 0 (p + 1) with
  | none =>
    refine br_t rfl (pr_xrmif hc ?_)
    have II := ps_anyRm hc A
    refine pr_xinval (ps_anyC II) ?_
    exact H0 (ps_lsN _ _ e p (Nat.zero_le _) (by omega)) _ _ _ _ _ _ II
  | some q =>
    have hq := pr_ls_in _ _ _ e
    obtain ⟨q1, q2⟩ := ps_lsS _ _ e
    refine br_f (pr_ansne (by omega)) ⟨pr_i4 hc, nm_r (e' := upd sp c (nI p)) (by rw [hcl]) ⟨pr_i4 hc, nm_r (e' := upd sb c (nI q)) (by rw [hcl]; rfl) ?_⟩⟩
    have II := ps_anyIf hc h2 hct2 hn hp2 (show q ≤ p by omega) q1 A
    refine pr_xinval (ps_anyC II) ?_
    exact H1 q (by omega) q1 (fun x hx => q2 x (Nat.zero_le _) hx) _ _ _ _ _ _ II
theorem ps_xadm {post : Int32 → St2 → Prop} (O : ps_Ok hz nw ad po ct sp sb pe wc re mi le)
    (Hp : ∀ r nw' ad' po' ct' sp' sb' pe' wc' re' ex' mi' le', ps_Ok hz nw' ad' po' ct' sp' sb' pe' wc' re' mi' le' → post r (hz, nw', ad', po', ct', sp', sb', pe', wc', re', ex', mi', le')) :
    wpX_admit post (hz, nw, ad, po, ct, sp, sb, pe, wc, re, ex, mi, le) := by
  obtain ⟨H, n, h1, h2, h3, rfl, rfl, A, -⟩ := O
  have A' := A
  obtain ⟨P, Q, K, T, C, S⟩ := A
  refine pr_xadmit (P := P) (Q := Q) (fun c hc => (S c hc).2.2.2.1.1) (fun c hc => by have a := (S c hc).2.2.2.1; omega) (fun c hc => (S c hc).2.2.2.1.2.2.1) (fun c hc => (S c hc).2.2.2.1.2.2.2) (ps_StC S) (fun b hb => Hp _ _ _ _ _ _ _ _ _ _ _ _ _ ?_)
  refine ⟨H, 0, h1, h2, Nat.zero_le _, rfl, rfl, A', ?_⟩
  cases b with
  | false => exact Or.inl rfl
  | true =>
    have a := Bool.and_eq_true_iff.mp hb.symm
    have hs : ∀ c, c < 4 → 0 < K c → 0 < P c := by
      intro c hc hk
      have f := ps_allT _ _ a.1 c (Nat.zero_le _) (by omega)
      obtain ⟨-, ⟨k1, k2⟩, -, ⟨p1, p2, p3, p4⟩, -⟩ := S c hc
      by_cases z : P c = 0
      · have g : (decide (ct c ≤ 0) || !decide (sp c = 0)) = true := f
        rw [decide_eq_false (show ¬ ct c ≤ 0 by rw [k2]; exact fun y => by have := (ps_le0 (by omega)).mp y; omega), decide_eq_true (show sp c = 0 by rw [p3, z]; rfl)] at g
        cases g
      · omega
    refine Or.inr ⟨rfl, fun c hc => ?_, P, Q, K, T, C, S, ps_start S hs (ps_bw (of_decide_eq_true a.2))⟩
    show (if 0 ≤ c ∧ c < 4 then 0 else mi c) = 0
    exact if_pos ⟨Nat.zero_le _, hc⟩
theorem ps_xrunO {post : Int32 → St2 → Prop} {v : Nat} (hv : 1 ≤ v) (hv2 : v ≤ 1000) (O : ps_Ok hz nw ad po ct sp sb pe wc re mi le)
    (Hp : ∀ r nw' ad' po' ct' sp' sb' pe' wc' re' ex' mi' le', ps_Ok hz nw' ad' po' ct' sp' sb' pe' wc' re' mi' le' → post r (hz, nw', ad', po', ct', sp', sb', pe', wc', re', ex', mi', le')) :
    wpX_run post (hz, nw, ad, po, ct, sp, sb, pe, wc, re, ex, mi, le) (nI v) := by
  have R := O
  obtain ⟨H, n, h1, h2, h3, rfl, rfl, A, B⟩ := O
  cases B with
  | inl a => exact br_t a (Hp _ _ _ _ _ _ _ _ _ _ _ _ _ R)
  | inr B =>
    obtain ⟨a, hm, P, Q, K, T, C, S, D⟩ := B
    have Ok : ∀ n' re' ex' le', n' ≤ H → ps_Dy H n' po re' le' P Q K T C → ∀ r, post r (nI H, nI n', ad, po, ct, sp, sb, pe, wc, re', ex', mi, le') := fun n' re' ex' le' hn' D' r => Hp _ _ _ _ _ _ _ _ _ _ _ _ _ ⟨H, n', h1, h2, hn', rfl, rfl, A, Or.inr ⟨a, hm, P, Q, K, T, C, S, D'⟩⟩
    refine br_f (by rw [a]; decide) (br_t (nI_le (a := 1) hv (by omega)) (nm_r (e' := nI (H - n)) (pk_sub h3) ?_))
    by_cases e : H - n ≤ v
    · refine br_t ((nI_leI (by omega) (by omega)).mpr e) ⟨H - n + 1, ps_xrun S h2 (m := H - n) (by omega) (H - n) 0 n (by omega) (by omega) re ex le D (fun re' ex' le' D' => ?_)⟩
      exact Ok _ _ _ _ (by omega) D' _
    · refine br_f (fun y => e ((nI_leI (by omega) (by omega)).mp y)) ⟨v + 1, ps_xrun S h2 (m := v) (by omega) v 0 n (by omega) (by omega) re ex le D (fun re' ex' le' D' => ?_)⟩
      exact Ok _ _ _ _ (by omega) D' _
end PS39
