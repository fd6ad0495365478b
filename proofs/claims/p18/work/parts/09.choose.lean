section PR09
variable {hz nw ad : Int32} {po ct sp sb pe wc re ex mi le : Nat → Int32}
/-! the component chosen -/
def pr_dl (nw p : Int32) : Int32 := (nw / p + 1) * p
def pr_ch (nw : Int32) (sp le : Nat → Int32) : Nat → Int32 × Int32
  | 0 => (-1, 0)
  | c + 1 => if sp c = 0 then pr_ch nw sp le c else if le c ≤ 0 then pr_ch nw sp le c else if (pr_ch nw sp le c).1 = -1 then (nI c, pr_dl nw (sp c)) else if (pr_ch nw sp le c).2 ≤ pr_dl nw (sp c) then pr_ch nw sp le c else (nI c, pr_dl nw (sp c))
theorem pr_ch_in : ∀ n, (pr_ch nw sp le n).1 = -1 ∨ ∃ j, j < n ∧ (pr_ch nw sp le n).1 = nI j := by
  intro n
  induction n with
  | zero => exact Or.inl rfl
  | succ n ih =>
    have ih' : (pr_ch nw sp le n).1 = -1 ∨ ∃ j, j < n + 1 ∧ (pr_ch nw sp le n).1 = nI j := by
      cases ih with
      | inl h => exact Or.inl h
      | inr h => obtain ⟨j, hj, e⟩ := h; exact Or.inr ⟨j, by omega, e⟩
    have me : (nI n, pr_dl nw (sp n)).1 = -1 ∨ ∃ j, j < n + 1 ∧ (nI n, pr_dl nw (sp n)).1 = nI j := Or.inr ⟨n, by omega, rfl⟩
    unfold pr_ch
    by_cases h1 : sp n = 0
    · rw [if_pos h1]; exact ih'
    · rw [if_neg h1]
      by_cases h2 : le n ≤ 0
      · rw [if_pos h2]; exact ih'
      · rw [if_neg h2]
        by_cases h3 : (pr_ch nw sp le n).1 = -1
        · rw [if_pos h3]; exact me
        · rw [if_neg h3]
          by_cases h4 : (pr_ch nw sp le n).2 ≤ pr_dl nw (sp n)
          · rw [if_pos h4]; exact ih'
          · rw [if_neg h4]; exact me
theorem pr_xch6 {post : Int32 → Prop} (H : post (pr_ch nw sp le 4).1) :
    ∀ d c, c + d = 4 → wX_chooseComponent_6 post hz nw ad po ct sp sb pe wc re ex mi le (d + 1) (pr_ch nw sp le c).1 (pr_ch nw sp le c).2 (nI c) := by
  intro d
  induction d with
  | zero =>
    intro c hc
    have e : c = 4 := by omega
    subst e
    exact pk_le 4 4 (fun _ => H) (fun z => absurd z (by omega))
  | succ d ih =>
    intro c hc
    have hc4 : c < 4 := by omega
    have hcl : (nI c).toNatClampNeg = c := nI_clamp (by omega)
    have W := ih (c + 1) (by omega)
    unfold pr_ch at W
    refine pk_le 4 c (fun z => absurd z (by omega)) (fun _ => pr_xhas hc4 (fun h1 => br_t rfl (nm_r (e' := nI (c + 1)) (nI_1 _) ?_)) (fun h1 => br_f pr_10 ⟨pr_i4 hc4, ?_⟩))
    · rw [if_pos h1] at W; exact W
    · rw [if_neg h1] at W
      rw [hcl]
      refine br_c (fun h2 => nm_r (e' := nI (c + 1)) (nI_1 _) ?_) (fun h2 => ⟨pr_i4 hc4, nm_r (e' := sp c) rfl ⟨h1, nm_r (e' := pr_dl nw (sp c)) rfl (br_c (fun h3 => nm_r (e' := nI (c + 1)) (nI_1 _) ?_) (fun h3 => br_c (fun h4 => nm_r (e' := nI (c + 1)) (nI_1 _) ?_) (fun h4 => nm_r (e' := nI (c + 1)) (nI_1 _) ?_)))⟩⟩)
      · rw [if_pos h2] at W; exact W
      · rw [if_neg h2, if_pos h3] at W; exact W
      · rw [if_neg h2, if_neg h3, if_pos h4] at W; exact W
      · rw [if_neg h2, if_neg h3, if_neg h4] at W; exact W
theorem pr_xch {post : Int32 → Prop} (H : post (pr_ch nw sp le 4).1) : wpX_chooseComponent post (hz, nw, ad, po, ct, sp, sb, pe, wc, re, ex, mi, le) :=
  ⟨5, pr_xch6 H 4 0 (by omega)⟩
theorem pr_chneg {n : Nat} (hn : n < 2 ^ 31) : (pr_ch nw sp le n).1 = -1 ↔ (pr_ch nw sp le n).1 < 0 := by
  cases pr_ch_in (nw := nw) (sp := sp) (le := le) n with
  | inl h => rw [h]; exact ⟨fun _ => by decide, fun _ => rfl⟩
  | inr h =>
    obtain ⟨j, hj, e⟩ := h
    rw [e]
    refine ⟨fun z => ?_, fun z => absurd z (nI_pos (by omega))⟩
    have h5 := nI_pos (n := j) (by omega)
    rw [z] at h5
    exact absurd (by decide) h5
/-! the task served: (which of the first i, its deadline) -/
def pr_sel (edf : Bool) (nw : Int32) (pe re : Nat → Int32) (b : Nat) : Nat → Option Nat × Int32
  | 0 => (none, 0)
  | i + 1 => if re (b + i) ≤ 0 then pr_sel edf nw pe re b i else match (pr_sel edf nw pe re b i).1 with
    | none => (some i, pr_dl nw (pe (b + i)))
    | some _ => if edf = true ∧ ¬ (pr_sel edf nw pe re b i).2 ≤ pr_dl nw (pe (b + i)) then (some i, pr_dl nw (pe (b + i))) else pr_sel edf nw pe re b i
def pr_o (b : Nat) (o : Option Nat) : Int32 := match o with
  | none => -1
  | some j => nI (b + j)
section PR09S
variable {edf : Bool} {b i : Nat}
theorem pr_sel0 (h : re (b + i) ≤ 0) : pr_sel edf nw pe re b (i + 1) = pr_sel edf nw pe re b i := if_pos h
theorem pr_sel1 (h : ¬ re (b + i) ≤ 0) (h2 : (pr_sel edf nw pe re b i).1 = none) : pr_sel edf nw pe re b (i + 1) = (some i, pr_dl nw (pe (b + i))) := by
  have e : pr_sel edf nw pe re b (i + 1) = match (pr_sel edf nw pe re b i).1 with
    | none => (some i, pr_dl nw (pe (b + i)))
    | some _ => if edf = true ∧ ¬ (pr_sel edf nw pe re b i).2 ≤ pr_dl nw (pe (b + i)) then (some i, pr_dl nw (pe (b + i))) else pr_sel edf nw pe re b i := if_neg h
  rw [e, h2]
theorem pr_sel2 {j : Nat} (h : ¬ re (b + i) ≤ 0) (h2 : (pr_sel edf nw pe re b i).1 = some j) : pr_sel edf nw pe re b (i + 1) = if edf = true ∧ ¬ (pr_sel edf nw pe re b i).2 ≤ pr_dl nw (pe (b + i)) then (some i, pr_dl nw (pe (b + i))) else pr_sel edf nw pe re b i := by
  have e : pr_sel edf nw pe re b (i + 1) = match (pr_sel edf nw pe re b i).1 with
    | none => (some i, pr_dl nw (pe (b + i)))
    | some _ => if edf = true ∧ ¬ (pr_sel edf nw pe re b i).2 ≤ pr_dl nw (pe (b + i)) then (some i, pr_dl nw (pe (b + i))) else pr_sel edf nw pe re b i := if_neg h
  rw [e, h2]
end PR09S
theorem pr_sel_in {edf : Bool} {b : Nat} : ∀ n j, (pr_sel edf nw pe re b n).1 = some j → j < n := by
  intro n
  induction n with
  | zero => intro j h; cases h
  | succ n ih =>
    intro j h
    by_cases z : re (b + n) ≤ 0
    · rw [pr_sel0 z] at h
      have := ih j h
      omega
    · cases e : (pr_sel edf nw pe re b n).1 with
      | none =>
        rw [pr_sel1 z e] at h
        cases h
        omega
      | some m =>
        rw [pr_sel2 z e] at h
        by_cases y : edf = true ∧ ¬ (pr_sel edf nw pe re b n).2 ≤ pr_dl nw (pe (b + n))
        · rw [if_pos y] at h
          cases h
          omega
        · rw [if_neg y] at h
          have := ih j h
          omega
theorem pr_on {b j : Nat} (h : b + j < 2 ^ 31) : ¬ pr_o b (some j) = -1 := by
  intro e
  have h5 := nI_pos (n := b + j) h
  have e2 : nI (b + j) = -1 := e
  rw [e2] at h5
  exact h5 (by decide)
theorem pr_fpkeep {b j : Nat} : ∀ m i, (pr_sel false nw pe re b i).1 = some j → (pr_sel false nw pe re b (i + m)).1 = some j := by
  intro m
  induction m with
  | zero => intro i h; exact h
  | succ m ih =>
    intro i h
    have h1 := ih i h
    show (pr_sel false nw pe re b (i + m + 1)).1 = some j
    by_cases z : re (b + (i + m)) ≤ 0
    · rw [pr_sel0 z]; exact h1
    · rw [pr_sel2 z h1, if_neg (fun y => absurd y.1 (by decide))]; exact h1
theorem pr_xfp17 {post : Int32 → Prop} {c k : Nat} (hc : c < 4) (hk : k ≤ 8) (H : post (pr_o (c * 8) (pr_sel false nw pe re (c * 8) k).1)) :
    ∀ d i, i + d = k → (pr_sel false nw pe re (c * 8) i).1 = none → wX_firstPendingSlot_17 post (nI (c * 8 + k)) hz nw ad po ct sp sb pe wc re ex mi le (d + 1) (nI (c * 8 + i)) := by
  intro d
  induction d with
  | zero =>
    intro i hi h
    have e : i = k := by omega
    subst e
    rw [h] at H
    exact pk_le (c * 8 + i) (c * 8 + i) (fun _ => H) (fun z => absurd z (by omega))
  | succ d ih =>
    intro i hi h
    have hin : vp_in (nI (c * 8 + i)) 32 := pr_i32 hc (by omega)
    have hcl : (nI (c * 8 + i)).toNatClampNeg = c * 8 + i := nI_clamp (by omega)
    refine pk_le (c * 8 + k) (c * 8 + i) (fun z => absurd z (by omega)) (fun _ => ⟨hin, ?_⟩)
    rw [hcl]
    refine br_c (fun z => nm_r (e' := nI (c * 8 + (i + 1))) (nI_1 _) (ih (i + 1) (by omega) (by rw [pr_sel0 z]; exact h))) (fun z => ?_)
    have e1 : (pr_sel false nw pe re (c * 8) (i + 1)).1 = some i := by rw [pr_sel1 z h]
    have e2 := pr_fpkeep d (i + 1) e1
    rw [show i + 1 + d = k from by omega] at e2
    rw [e2] at H
    exact H
theorem pr_xfp {post : Int32 → Prop} {c k : Nat} (hc : c < 4) (hk : k ≤ 8) (hct : ct c = nI k) (H : post (pr_o (c * 8) (pr_sel false nw pe re (c * 8) k).1)) :
    wpX_firstPendingSlot post (hz, nw, ad, po, ct, sp, sb, pe, wc, re, ex, mi, le) (nI c) := by
  have hcl : (nI c).toNatClampNeg = c := nI_clamp (by omega)
  refine nm_r (e' := nI (c * 8)) (pr_m8 c) ⟨pr_i4 hc, nm_r (e' := nI (c * 8 + k)) ?_ ⟨k + 1, pr_xfp17 hc hk H k 0 (by omega) rfl⟩⟩
  rw [hcl, hct]; exact nI_add _ _
theorem pr_xmu25 {post : Int32 → Prop} {c k : Nat} (hc : c < 4) (hk : k ≤ 8) (hp : ∀ i, i < k → ¬ pe (c * 8 + i) = 0) (H : post (pr_o (c * 8) (pr_sel true nw pe re (c * 8) k).1)) :
    ∀ d i, i + d = k → wX_mostUrgentSlot_25 post (nI (c * 8 + k)) hz nw ad po ct sp sb pe wc re ex mi le (d + 1) (pr_o (c * 8) (pr_sel true nw pe re (c * 8) i).1) (pr_sel true nw pe re (c * 8) i).2 (nI (c * 8 + i)) := by
  intro d
  induction d with
  | zero =>
    intro i hi
    have e : i = k := by omega
    subst e
    exact pk_le (c * 8 + i) (c * 8 + i) (fun _ => H) (fun z => absurd z (by omega))
  | succ d ih =>
    intro i hi
    have hin : vp_in (nI (c * 8 + i)) 32 := pr_i32 hc (by omega)
    have hcl : (nI (c * 8 + i)).toNatClampNeg = c * 8 + i := nI_clamp (by omega)
    have W := ih (i + 1) (by omega)
    refine pk_le (c * 8 + k) (c * 8 + i) (fun z => absurd z (by omega)) (fun _ => ⟨hin, ?_⟩)
    rw [hcl]
    refine br_c (fun z => nm_r (e' := nI (c * 8 + (i + 1))) (nI_1 _) ?_) (fun z => ⟨hin, hp i (by omega), hin, nm_r (e' := pr_dl nw (pe (c * 8 + i))) rfl ?_⟩)
    · rw [pr_sel0 z] at W; exact W
    · cases e : (pr_sel true nw pe re (c * 8) i).1 with
      | none =>
        rw [pr_sel1 z e] at W
        exact br_t rfl (nm_r (e' := nI (c * 8 + (i + 1))) (nI_1 _) W)
      | some j =>
        have hj := pr_sel_in _ _ e
        rw [pr_sel2 z e] at W
        refine br_f (pr_on (by omega)) (br_c (fun y => nm_r (e' := nI (c * 8 + (i + 1))) (nI_1 _) ?_) (fun y => nm_r (e' := nI (c * 8 + (i + 1))) (nI_1 _) ?_))
        · rw [if_neg (fun x => x.2 y), e] at W; exact W
        · rw [if_pos ⟨rfl, y⟩] at W; exact W
theorem pr_xmu {post : Int32 → Prop} {c k : Nat} (hc : c < 4) (hk : k ≤ 8) (hct : ct c = nI k) (hp : ∀ i, i < k → ¬ pe (c * 8 + i) = 0) (H : post (pr_o (c * 8) (pr_sel true nw pe re (c * 8) k).1)) :
    wpX_mostUrgentSlot post (hz, nw, ad, po, ct, sp, sb, pe, wc, re, ex, mi, le) (nI c) := by
  have hcl : (nI c).toNatClampNeg = c := nI_clamp (by omega)
  refine nm_r (e' := nI (c * 8)) (pr_m8 c) ⟨pr_i4 hc, nm_r (e' := nI (c * 8 + k)) ?_ ⟨k + 1, pr_xmu25 hc hk hp H k 0 (by omega)⟩⟩
  rw [hcl, hct]; exact nI_add _ _
/-! what serving does -/
def pr_svR (b : Nat) (re : Nat → Int32) (o : Option Nat) : Nat → Int32 := match o with
  | none => re
  | some j => upd re (b + j) (re (b + j) - 1)
def pr_svE (b : Nat) (ex : Nat → Int32) (o : Option Nat) : Nat → Int32 := match o with
  | none => ex
  | some j => upd ex (b + j) (ex (b + j) + 1)
theorem pr_xsv23 {post : St2 → Prop} {c : Nat} (hc : c < 4) (o : Option Nat) (ho : ∀ j, o = some j → j < 8) (H : post (hz, nw, ad, po, ct, sp, sb, pe, wc, pr_svR (c * 8) re o, pr_svE (c * 8) ex o, mi, le)) :
    wX_serveTask_23 post (pr_o (c * 8) o) hz nw ad po ct sp sb pe wc re ex mi le := by
  cases o with
  | none => exact br_t rfl H
  | some j =>
    have hj := ho j rfl
    have hin : vp_in (nI (c * 8 + j)) 32 := pr_i32 hc hj
    have hcl : (nI (c * 8 + j)).toNatClampNeg = c * 8 + j := nI_clamp (by omega)
    exact br_f (pr_on (by omega)) ⟨hin, hin, nm_r (e' := upd re (c * 8 + j) (re (c * 8 + j) - 1)) (by show upd re (nI (c * 8 + j)).toNatClampNeg (re (nI (c * 8 + j)).toNatClampNeg - 1) = _; rw [hcl]) ⟨hin, hin, nm_r (e' := upd ex (c * 8 + j) (ex (c * 8 + j) + 1)) (by show upd ex (nI (c * 8 + j)).toNatClampNeg (ex (nI (c * 8 + j)).toNatClampNeg + 1) = _; rw [hcl]) H⟩⟩
theorem pr_xserve {post : St2 → Prop} {c k : Nat} (hc : c < 4) (hk : k ≤ 8) (hpo : po c = 0 ∨ po c = 1) (hct : ct c = nI k) (hp : ∀ i, i < k → ¬ pe (c * 8 + i) = 0)
    (H : post (hz, nw, ad, po, ct, sp, sb, pe, wc, pr_svR (c * 8) re (pr_sel (decide (po c = 0)) nw pe re (c * 8) k).1, pr_svE (c * 8) ex (pr_sel (decide (po c = 0)) nw pe re (c * 8) k).1, mi, le)) :
    wpX_serveTask post (hz, nw, ad, po, ct, sp, sb, pe, wc, re, ex, mi, le) (nI c) := by
  have hcl : (nI c).toNatClampNeg = c := nI_clamp (by omega)
  refine ⟨pr_i4 hc, ?_⟩
  rw [hcl]
  cases hpo with
  | inl h =>
    rw [decide_eq_true h] at H
    exact br_f (by rw [h]; decide) (pr_xmu hc hk hct hp (pr_xsv23 hc _ (fun j e => by have := pr_sel_in _ _ e; omega) H))
  | inr h =>
    rw [decide_eq_false (by rw [h]; decide)] at H
    exact br_t h (pr_xfp hc hk hct (pr_xsv23 hc _ (fun j e => by have := pr_sel_in _ _ e; omega) H))
end PR09
