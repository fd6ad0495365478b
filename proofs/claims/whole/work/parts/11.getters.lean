section PR11
theorem i_vc_getHorizon {k : Nat} {u : SX} {v : SY} (I : i_Rel k u v) (hk : k + 4 ≤ 2049) : wpX_getHorizon (fun r => wpY_getHorizon (fun r' => r' = r ∧ i_Rel (k + 4) u v) v) u := by
  have R : i_Rel (k + 4) u v := I
  obtain ⟨hz, nw, ad, po, ct, sp, sb, pe, wc, re, ex, mi, le, rfl, rfl, J⟩ := I
  exact ⟨rfl, R⟩
theorem i_vc_isAdmitted {k : Nat} {u : SX} {v : SY} (I : i_Rel k u v) (hk : k + 4 ≤ 2049) : wpX_isAdmitted (fun r => wpY_isAdmitted (fun r' => r' = r ∧ i_Rel (k + 4) u v) v) u := by
  have R : i_Rel (k + 4) u v := I
  obtain ⟨hz, nw, ad, po, ct, sp, sb, pe, wc, re, ex, mi, le, rfl, rfl, -, ha, -⟩ := I
  have hn : narrow .boolean (.int ad) = .int ad := by
    cases ha with
    | inl h => rw [h]; rfl
    | inr h => rw [h]; rfl
  exact ⟨hn, hn, rfl, R⟩
theorem i_vc_getTime {k : Nat} {u : SX} {v : SY} (I : i_Rel k u v) (hk : k + 4 ≤ 2049) : wpX_getTime (fun r => wpY_getTime (fun r' => r' = r ∧ i_Rel (k + 4) u v) v) u := by
  have R : i_Rel (k + 4) u v := I
  obtain ⟨hz, nw, ad, po, ct, sp, sb, pe, wc, re, ex, mi, le, rfl, rfl, J⟩ := I
  exact ⟨rfl, R⟩
/-! a time within 0 .. 100000 -/
theorem pr_xtime {post : Int32 → Prop} {x : Int32} (h0 : ¬ (∃ t, t ≤ 100000 ∧ x = nI t) → post 0) (h1 : ∀ t, t ≤ 100000 → x = nI t → post 1) : wpX_isBoundTime post x := by
  refine br_c (fun z => h0 ?_) (fun z => br_c (fun z2 => h0 ?_) (fun z2 => ?_))
  · rintro ⟨t, ht, rfl⟩; exact nI_pos (by omega) z
  · rintro ⟨t, ht, rfl⟩; exact nI_nlt (a := 100000) ht (by omega) z2
  · obtain ⟨t, ht, rfl⟩ := nI_of z
    have h : t ≤ 100000 := by
      have h5 : ¬ nI 100000 < nI t := z2
      rw [nI_ltI (by omega) ht] at h5
      omega
    exact h1 t h rfl
theorem pr_yt {A B C : Prop} {t : Nat} (ht : t ≤ 100000) (b : B) : (nI t < 0 → A) ∧ (¬ nI t < 0 → (nI t ≤ 100000 → B) ∧ (¬ nI t ≤ 100000 → C)) :=
  br_f (nI_pos (by omega)) (br_t (nI_le (b := 100000) ht (by decide)) b)
theorem pr_ytn {A B C : Prop} {x : Int32} (h : ¬ ∃ t, t ≤ 100000 ∧ x = nI t) (a : A) (c : C) : (x < 0 → A) ∧ (¬ x < 0 → (x ≤ 100000 → B) ∧ (¬ x ≤ 100000 → C)) := by
  refine br_c (fun _ => a) (fun z => br_c (fun z2 => ?_) (fun _ => c))
  exfalso
  obtain ⟨t, ht, rfl⟩ := nI_of z
  have h6 : nI t ≤ nI 100000 := z2
  rw [nI_leI ht (by omega)] at h6
  exact h ⟨t, h6, rfl⟩
theorem i_vc_supplyBound {k : Nat} {u : SX} {v : SY} (I : i_Rel k u v) (hk : k + 4 ≤ 2049) (v1 : Int32) (v2 : Int32) (v3 : Int32) : wpX_supplyBound (fun r => wpY_supplyBound (fun r' => r' = r ∧ i_Rel (k + 4) u v) v v1 v2 v3) u v1 v2 v3 := by
  have R : i_Rel (k + 4) u v := I
  obtain ⟨hz, nw, ad, po, ct, sp, sb, pe, wc, re, ex, mi, le, rfl, rfl, J⟩ := I
  unfold wpX_supplyBound
  refine pr_xper (fun z => br_t rfl (pr_yper0 z ⟨rfl, R⟩ ⟨rfl, R⟩)) (fun p hp hp2 e => br_f pr_10 ?_)
  subst e
  by_cases a : v2 < 0
  · exact br_t a (pr_yper hp hp2 (br_t a ⟨rfl, R⟩))
  refine br_f a ?_
  obtain ⟨q, hq, rfl⟩ := nI_of a
  by_cases b : nI p < nI q
  · exact br_t b (pr_yper hp hp2 (br_f a (br_f (Int32.not_le.mpr b) ⟨rfl, R⟩)))
  have b' : nI q ≤ nI p := Int32.not_lt.mp b
  have hqp : q ≤ p := (nI_leI hq (by omega)).mp b'
  refine br_f b ?_
  refine pr_xtime (fun z => br_t rfl (pr_yper hp hp2 (br_f a (br_t b' (pr_ytn z ⟨rfl, R⟩ ⟨rfl, R⟩))))) (fun t ht e => br_f pr_10 ?_)
  subst e
  refine pr_xsup hp hp2 hqp ht ?_
  exact pr_yper hp hp2 (br_f a (br_t b' (pr_yt ht (pr_ysbf hp hp2 hqp ht ⟨rfl, R⟩))))
theorem i_vc_demandBound {k : Nat} {u : SX} {v : SY} (I : i_Rel k u v) (hk : k + 4 ≤ 2049) (v1 : Int32) (v2 : Int32) : wpX_demandBound (fun r => wpY_demandBound (fun r' => r' = r ∧ i_Rel (k + 4) u v) v v1 v2) u v1 v2 := by
  have R : i_Rel (k + 4) u v := I
  obtain ⟨hz, nw, ad, po, ct, sp, sb, pe, wc, re, ex, mi, le, rfl, rfl, -, -, I⟩ := I
  unfold wpX_demandBound
  refine pr_xcomp (fun z => br_t rfl (pr_yn z ⟨rfl, R⟩ ⟨rfl, R⟩)) (fun c hc e => br_f pr_10 ?_)
  subst e
  obtain ⟨-, ⟨n, hn, hct, hpe⟩, -⟩ := I c hc
  refine pr_xtime (fun z => br_t rfl (pr_yc hc (pr_ytn z ⟨rfl, R⟩ ⟨rfl, R⟩))) (fun t ht e => br_f pr_10 ?_)
  subst e
  refine pr_xdemand hc hn hct (pr_nz hpe) ?_
  exact pr_yc hc (pr_yt ht (pr_ydbf hc hn hct (pr_nz hpe) ⟨rfl, R⟩))
/-! a task of a component -/
theorem pr_xtask {post : Int32 → Prop} {hz nw ad : Int32} {po ct sp sb pe wc re ex mi le : Nat → Int32} {x y : Int32} (I : ∀ c, c < 4 → pr_C po ct sp sb pe c)
    (h0 : ¬ (∃ c, c < 4 ∧ x = nI c) → post 0) (h1 : ∀ c, c < 4 → x = nI c → ¬ (∃ j n, j < n ∧ n ≤ 8 ∧ ct c = nI n ∧ y = nI j) → post 0) (h2 : ∀ c, c < 4 → x = nI c → ∀ j n, j < n → n ≤ 8 → ct c = nI n → y = nI j → post 1) :
    wpX_isTask post (hz, nw, ad, po, ct, sp, sb, pe, wc, re, ex, mi, le) x y := by
  unfold wpX_isTask
  refine pr_xcomp (fun z => br_t rfl (h0 z)) (fun c hc e => br_f pr_10 ?_)
  subst e
  have hcl : (nI c).toNatClampNeg = c := nI_clamp (by omega)
  obtain ⟨-, ⟨n, hn, hct, -⟩, -⟩ := I c hc
  refine br_c (fun z => h1 c hc rfl ?_) (fun z => ⟨pr_i4 hc, ?_⟩)
  · rintro ⟨j, m, h, hm, -, rfl⟩; exact nI_pos (by omega) z
  · obtain ⟨j, hj, rfl⟩ := nI_of z
    have hcc : ct (nI c).toNatClampNeg = nI n := by rw [hcl]; exact hct
    refine pk_le n j (fun y => h1 c hc rfl ?_) (fun y => h2 c hc rfl j n y hn hct rfl) hcc
    rintro ⟨j2, m, h, hm, e1, e2⟩
    have e3 : n = m := (nI_eq (by omega) (by omega)).mp (hct.symm.trans e1)
    have e4 : j = j2 := (nI_eq hj (by omega)).mp e2
    omega
/-! Y: the same test -/
theorem pr_ytask {ct : Nat → Int32} {A B C : Prop} {c j n : Nat} (hc : c < 4) (hj : j < n) (hn : n ≤ 8) (hct : ct c = nI n) (b : B) : (nI j < 0 → A) ∧ (¬ nI j < 0 → (vp_in (nI c) 4 ∧ ((nI j < ct (nI c).toNatClampNeg → B) ∧ (¬ nI j < ct (nI c).toNatClampNeg → C)))) := by
  have hcc : ct (nI c).toNatClampNeg = nI n := by rw [pr_cl (c := c) (by omega)]; exact hct
  exact br_f (nI_pos (by omega)) ⟨pr_i4 hc, br_t (by rw [hcc]; exact nI_lt hj (by omega)) b⟩
theorem pr_ytaskn {po ct sp sb pe : Nat → Int32} {A B C : Prop} {c : Nat} {y : Int32} (hc : c < 4) (I : ∀ c, c < 4 → pr_C po ct sp sb pe c) (h : ¬ (∃ j n, j < n ∧ n ≤ 8 ∧ ct c = nI n ∧ y = nI j)) (a : A) (d : C) : (y < 0 → A) ∧ (¬ y < 0 → (vp_in (nI c) 4 ∧ ((y < ct (nI c).toNatClampNeg → B) ∧ (¬ y < ct (nI c).toNatClampNeg → C)))) := by
  obtain ⟨-, ⟨n, hn, hct, -⟩, -⟩ := I c hc
  have hcc : ct (nI c).toNatClampNeg = nI n := by rw [pr_cl (c := c) (by omega)]; exact hct
  refine br_c (fun _ => a) (fun z => ⟨pr_i4 hc, br_c (fun z2 => ?_) (fun _ => d)⟩)
  exfalso
  obtain ⟨j, hj, rfl⟩ := nI_of z
  rw [hcc, nI_ltI hj (by omega)] at z2
  exact h ⟨j, n, z2, hn, hct, rfl⟩
theorem i_vc_requestBound {k : Nat} {u : SX} {v : SY} (I : i_Rel k u v) (hk : k + 4 ≤ 2049) (v1 : Int32) (v2 : Int32) (v3 : Int32) : wpX_requestBound (fun r => wpY_requestBound (fun r' => r' = r ∧ i_Rel (k + 4) u v) v v1 v2 v3) u v1 v2 v3 := by
  have R : i_Rel (k + 4) u v := I
  obtain ⟨hz, nw, ad, po, ct, sp, sb, pe, wc, re, ex, mi, le, rfl, rfl, -, -, I⟩ := I
  unfold wpX_requestBound
  refine pr_xtask I (fun z => br_t rfl (pr_yn z ⟨rfl, R⟩ ⟨rfl, R⟩)) (fun c hc e z => br_t rfl ?_) (fun c hc e j n hj hn hct e2 => br_f pr_10 ?_)
  · subst e
    exact pr_yc hc (pr_ytaskn hc I z ⟨rfl, R⟩ ⟨rfl, R⟩)
  · subst e
    subst e2
    have hp : ∀ i, i < j + 1 → ¬ pe (c * 8 + i) = 0 := by
      obtain ⟨-, ⟨m, hm, hct2, hpe⟩, -⟩ := I c hc
      have e3 : n = m := (nI_eq (by omega) (by omega)).mp (hct.symm.trans hct2)
      exact fun i hi => pr_nz hpe i (by omega)
    refine pr_xtime (fun z => br_t rfl (pr_yc hc (pr_ytask hc hj hn hct (pr_ytn z ⟨rfl, R⟩ ⟨rfl, R⟩)))) (fun t ht e => br_f pr_10 ?_)
    subst e
    refine pr_xrequest hc (by omega) hp ?_
    exact pr_yc hc (pr_ytask hc hj hn hct (pr_yt ht (pr_yrbf hc (by omega) hp ⟨rfl, R⟩)))
theorem i_vc_getMisses {k : Nat} {u : SX} {v : SY} (I : i_Rel k u v) (hk : k + 4 ≤ 2049) (v1 : Int32) : wpX_getMisses (fun r => wpY_getMisses (fun r' => r' = r ∧ i_Rel (k + 4) u v) v v1) u v1 := by
  have R : i_Rel (k + 4) u v := I
  obtain ⟨hz, nw, ad, po, ct, sp, sb, pe, wc, re, ex, mi, le, rfl, rfl, -⟩ := I
  unfold wpX_getMisses
  refine pr_xcomp (fun z => br_t rfl (pr_yn z ⟨rfl, R⟩ ⟨rfl, R⟩)) (fun c hc e => br_f pr_10 ?_)
  subst e
  exact ⟨pr_i4 hc, pr_yc hc ⟨pr_i4 hc, rfl, R⟩⟩
theorem i_vc_getBudgetLeft {k : Nat} {u : SX} {v : SY} (I : i_Rel k u v) (hk : k + 4 ≤ 2049) (v1 : Int32) : wpX_getBudgetLeft (fun r => wpY_getBudgetLeft (fun r' => r' = r ∧ i_Rel (k + 4) u v) v v1) u v1 := by
  have R : i_Rel (k + 4) u v := I
  obtain ⟨hz, nw, ad, po, ct, sp, sb, pe, wc, re, ex, mi, le, rfl, rfl, -⟩ := I
  unfold wpX_getBudgetLeft
  refine pr_xcomp (fun z => br_t rfl (pr_yn z ⟨rfl, R⟩ ⟨rfl, R⟩)) (fun c hc e => br_f pr_10 ?_)
  subst e
  exact ⟨pr_i4 hc, pr_yc hc ⟨pr_i4 hc, rfl, R⟩⟩
theorem i_vc_getComponent {k : Nat} {u : SX} {v : SY} (I : i_Rel k u v) (hk : k + 4 ≤ 2049) (v1 : Int32) (v2 : Int32) : wpX_getComponent (fun r => wpY_getComponent (fun r' => r' = r ∧ i_Rel (k + 4) u v) v v1 v2) u v1 v2 := by
  have R : i_Rel (k + 4) u v := I
  obtain ⟨hz, nw, ad, po, ct, sp, sb, pe, wc, re, ex, mi, le, rfl, rfl, -, -, I⟩ := I
  unfold wpX_getComponent
  refine pr_xcomp (fun z => br_t rfl (pr_yn z ⟨rfl, R⟩ ⟨rfl, R⟩)) (fun c hc e => br_f pr_10 ?_)
  subst e
  have hcl : (nI c).toNatClampNeg = c := nI_clamp (by omega)
  by_cases a : v2 < 0
  · exact br_t a (pr_yc hc (br_t a ⟨rfl, R⟩))
  refine br_f a ?_
  by_cases b : 3 < v2
  · exact br_t b (pr_yc hc (br_f a (br_f (Int32.not_le.mpr b) ⟨rfl, R⟩)))
  have b' : v2 ≤ 3 := Int32.not_lt.mp b
  refine br_f b ?_
  by_cases f0 : v2 = 0
  · exact br_t f0 ⟨pr_i4 hc, pr_yc hc (br_f a (br_t b' (br_t f0 ⟨pr_i4 hc, rfl, R⟩)))⟩
  refine br_f f0 ?_
  by_cases f1 : v2 = 1
  · exact br_t f1 ⟨pr_i4 hc, pr_yc hc (br_f a (br_t b' (br_f f0 (br_t f1 ⟨pr_i4 hc, rfl, R⟩))))⟩
  refine br_f f1 ?_
  have hs : sp (nI c).toNatClampNeg = sp c := by rw [hcl]
  by_cases f2 : v2 = 2
  · refine br_t f2 (pr_xhas hc (fun y => br_t rfl ?_) (fun y => br_f pr_10 ⟨pr_i4 hc, ?_⟩))
    · exact pr_yc hc (br_f a (br_t b' (br_f f0 (br_f f1 ⟨pr_i4 hc, br_t (hs.trans y) ⟨rfl, R⟩⟩))))
    · exact pr_yc hc (br_f a (br_t b' (br_f f0 (br_f f1 ⟨pr_i4 hc, br_f (fun w => y (hs.symm.trans w)) (br_t f2 ⟨pr_i4 hc, rfl, R⟩)⟩))))
  refine br_f f2 ?_
  by_cases f3 : v2 = 3
  · refine br_t f3 (pr_xhas hc (fun y => br_t rfl ?_) (fun y => br_f pr_10 ⟨pr_i4 hc, ?_⟩))
    · exact pr_yc hc (br_f a (br_t b' (br_f f0 (br_f f1 ⟨pr_i4 hc, br_t (hs.trans y) ⟨rfl, R⟩⟩))))
    · exact pr_yc hc (br_f a (br_t b' (br_f f0 (br_f f1 ⟨pr_i4 hc, br_f (fun w => y (hs.symm.trans w)) (br_f f2 ⟨pr_i4 hc, rfl, R⟩)⟩))))
  · exact br_f f3 trivial
theorem i_vc_getTask {k : Nat} {u : SX} {v : SY} (I : i_Rel k u v) (hk : k + 4 ≤ 2049) (v1 : Int32) (v2 : Int32) (v3 : Int32) : wpX_getTask (fun r => wpY_getTask (fun r' => r' = r ∧ i_Rel (k + 4) u v) v v1 v2 v3) u v1 v2 v3 := by
  have R : i_Rel (k + 4) u v := I
  obtain ⟨hz, nw, ad, po, ct, sp, sb, pe, wc, re, ex, mi, le, rfl, rfl, -, -, I⟩ := I
  unfold wpX_getTask
  refine pr_xtask I (fun z => br_t rfl (pr_yn z ⟨rfl, R⟩ ⟨rfl, R⟩)) (fun c hc e z => br_t rfl ?_) (fun c hc e j n hj hn hct e2 => br_f pr_10 ?_)
  · subst e
    exact pr_yc hc (pr_ytaskn hc I z ⟨rfl, R⟩ ⟨rfl, R⟩)
  · subst e
    subst e2
    have hin : vp_in (nI (c * 8 + j)) 32 := pr_i32 hc (by omega)
    refine nm_r (e' := nI (c * 8 + j)) (pr_sl c j) ?_
    by_cases a : v3 < 0
    · exact br_t a (pr_yc hc (pr_ytask hc hj hn hct (br_t a ⟨rfl, R⟩)))
    refine br_f a ?_
    by_cases b : 3 < v3
    · exact br_t b (pr_yc hc (pr_ytask hc hj hn hct (br_f a (br_f (Int32.not_le.mpr b) ⟨rfl, R⟩))))
    have b' : v3 ≤ 3 := Int32.not_lt.mp b
    refine br_f b ?_
    by_cases f0 : v3 = 0
    · exact br_t f0 ⟨hin, pr_yc hc (pr_ytask hc hj hn hct (br_f a (br_t b' (nm_r (e' := nI (c * 8 + j)) (pr_sl c j) (br_t f0 ⟨hin, rfl, R⟩)))))⟩
    refine br_f f0 ?_
    by_cases f1 : v3 = 1
    · exact br_t f1 ⟨hin, pr_yc hc (pr_ytask hc hj hn hct (br_f a (br_t b' (nm_r (e' := nI (c * 8 + j)) (pr_sl c j) (br_f f0 (br_t f1 ⟨hin, rfl, R⟩))))))⟩
    refine br_f f1 ?_
    by_cases f2 : v3 = 2
    · exact br_t f2 ⟨hin, pr_yc hc (pr_ytask hc hj hn hct (br_f a (br_t b' (nm_r (e' := nI (c * 8 + j)) (pr_sl c j) (br_f f0 (br_f f1 (br_t f2 ⟨hin, rfl, R⟩)))))))⟩
    refine br_f f2 ?_
    by_cases f3 : v3 = 3
    · exact br_t f3 ⟨hin, pr_yc hc (pr_ytask hc hj hn hct (br_f a (br_t b' (nm_r (e' := nI (c * 8 + j)) (pr_sl c j) (br_f f0 (br_f f1 (br_f f2 ⟨hin, rfl, R⟩)))))))⟩
    · exact br_f f3 trivial
end PR11
