section PS38
variable {po ct sp sb pe wc : Nat → Int32} {P Q K : Nat → Nat} {T C : Nat → Nat → Nat} {H : Nat}
/-! one component's tasks, policy and interface are set -/
theorem ps_set {po' ct' pe' wc' : Nat → Int32} {c0 K0 p q : Nat} {T0 C0 : Nat → Nat} (S : ps_St H po ct sp sb pe wc P Q K T C) (hpo : po' c0 = 0 ∨ po' c0 = 1) (hK : K0 ≤ 8) (hct : ct' c0 = nI K0)
    (ht : ∀ i, i < K0 → 1 ≤ T0 i ∧ T0 i ≤ 64 ∧ C0 i ≤ 64 ∧ pe' (c0 * 8 + i) = nI (T0 i) ∧ wc' (c0 * 8 + i) = nI (C0 i)) (ho : ∀ c, c ≠ c0 → po' c = po c ∧ ct' c = ct c) (hx : ∀ x, (x < c0 * 8 ∨ c0 * 8 + 8 ≤ x) → pe' x = pe x ∧ wc' x = wc x)
    (hp : p ≤ 32) (hq : q ≤ p) (hcv : 0 < p → (po' c0 = 0 → ps_covE T0 C0 K0 p q H) ∧ (po' c0 = 1 → ps_covF T0 C0 K0 p q)) :
    ps_St H po' ct' (upd sp c0 (nI p)) (upd sb c0 (nI q)) pe' wc' (fun c => if c = c0 then p else P c) (fun c => if c = c0 then q else Q c) (fun c => if c = c0 then K0 else K c) (fun c => if c = c0 then T0 else T c) (fun c => if c = c0 then C0 else C c) := by
  intro c hc
  by_cases e : c = c0
  · subst e
    dsimp only
    rw [if_pos rfl, if_pos rfl, if_pos rfl, if_pos rfl, if_pos rfl, pk_us, pk_us]
    exact ⟨hpo, ⟨hK, hct⟩, ht, ⟨hp, hq, rfl, rfl⟩, hcv⟩
  · dsimp only
    rw [if_neg e, if_neg e, if_neg e, if_neg e, if_neg e, pk_un e, pk_un e, (ho c e).1, (ho c e).2]
    obtain ⟨h1, h2, h3, h4, h5⟩ := S c hc
    refine ⟨h1, h2, fun i hi => ?_, h4, h5⟩
    have a := hx (c * 8 + i) (by omega)
    rw [a.1, a.2]
    exact h3 i hi
def ps_Any (H : Nat) (po ct sp sb pe wc : Nat → Int32) : Prop := ∃ (P Q K : Nat → Nat) (T C : Nat → Nat → Nat), ps_St H po ct sp sb pe wc P Q K T C
theorem ps_any0 : ps_Any H (fun _ => 0) (fun _ => 0) (fun _ => 0) (fun _ => 0) (fun _ => 0) (fun _ => 0) :=
  ⟨fun _ => 0, fun _ => 0, fun _ => 0, fun _ _ => 0, fun _ _ => 0, fun c _ => ⟨Or.inl rfl, ⟨Nat.zero_le _, rfl⟩, fun i hi => absurd hi (Nat.not_lt_zero i), ⟨Nat.zero_le _, Nat.le_refl _, rfl, rfl⟩, fun z => absurd z (Nat.lt_irrefl 0)⟩⟩
theorem ps_anyPol {c0 : Nat} {x : Int32} (h0 : c0 < 4) (hx : x = 0 ∨ x = 1) (A : ps_Any H po ct sp sb pe wc) : ps_Any H (upd po c0 x) ct (upd sp c0 0) (upd sb c0 0) pe wc := by
  obtain ⟨P, Q, K, T, C, S⟩ := A
  obtain ⟨h1, ⟨h2, h3⟩, h4, -, -⟩ := S c0 h0
  exact ⟨_, _, _, _, _, ps_set (p := 0) (q := 0) S (by rw [pk_us]; exact hx) h2 h3 h4 (fun c hc => ⟨pk_un hc, rfl⟩) (fun x _ => ⟨rfl, rfl⟩) (by omega) (by omega) (fun z => absurd z (by omega))⟩
theorem ps_anyAdd {c0 k p w : Nat} (h0 : c0 < 4) (hk : k < 8) (hct : ct c0 = nI k) (hp : 1 ≤ p) (hp2 : p ≤ 64) (hw : w ≤ 64) (A : ps_Any H po ct sp sb pe wc) :
    ps_Any H po (upd ct c0 (nI (k + 1))) (upd sp c0 0) (upd sb c0 0) (upd pe (c0 * 8 + k) (nI p)) (upd wc (c0 * 8 + k) (nI w)) := by
  obtain ⟨P, Q, K, T, C, S⟩ := A
  obtain ⟨h1, ⟨h2, h3⟩, h4, -, -⟩ := S c0 h0
  have ek : K c0 = k := (nI_eq (by omega) (by omega)).mp (h3.symm.trans hct)
  refine ⟨_, _, _, _, _, ps_set (p := 0) (q := 0) (K0 := k + 1) (T0 := fun i => if i = k then p else T c0 i) (C0 := fun i => if i = k then w else C c0 i) S h1 (by omega) pk_us (fun i hi => ?_) (fun c hc => ⟨rfl, pk_un hc⟩) (fun x hx => ⟨pk_un (by omega), pk_un (by omega)⟩) (by omega) (by omega) (fun z => absurd z (by omega))⟩
  by_cases e : i = k
  · subst e
    rw [if_pos rfl, if_pos rfl, pk_us, pk_us]
    exact ⟨hp, hp2, hw, rfl, rfl⟩
  · rw [if_neg e, if_neg e, pk_un (by omega), pk_un (by omega)]
    exact h4 i (by omega)
theorem ps_anySub {c0 k : Nat} (h0 : c0 < 4) (hct : ct c0 = nI (k + 1)) (hk : k < 8) (A : ps_Any H po ct sp sb pe wc) : ps_Any H po (upd ct c0 (nI k)) (upd sp c0 0) (upd sb c0 0) pe wc := by
  obtain ⟨P, Q, K, T, C, S⟩ := A
  obtain ⟨h1, ⟨h2, h3⟩, h4, -, -⟩ := S c0 h0
  have ek : K c0 = k + 1 := (nI_eq (by omega) (by omega)).mp (h3.symm.trans hct)
  exact ⟨_, _, _, _, _, ps_set (p := 0) (q := 0) (K0 := k) S h1 (by omega) pk_us (fun i hi => h4 i (by omega)) (fun c hc => ⟨rfl, pk_un hc⟩) (fun x _ => ⟨rfl, rfl⟩) (by omega) (by omega) (fun z => absurd z (by omega))⟩
theorem ps_anyRm {c0 : Nat} (h0 : c0 < 4) (A : ps_Any H po ct sp sb pe wc) : ps_Any H po ct (upd sp c0 0) (upd sb c0 0) pe wc := by
  obtain ⟨P, Q, K, T, C, S⟩ := A
  obtain ⟨h1, ⟨h2, h3⟩, h4, -, -⟩ := S c0 h0
  exact ⟨_, _, _, _, _, ps_set (p := 0) (q := 0) S h1 h2 h3 h4 (fun c _ => ⟨rfl, rfl⟩) (fun x _ => ⟨rfl, rfl⟩) (by omega) (by omega) (fun z => absurd z (by omega))⟩
theorem ps_anyIf {c0 k p q : Nat} (h0 : c0 < 4) (hH : H ≤ 256) (hct : ct c0 = nI k) (hk : k ≤ 8) (hp : p ≤ 32) (hq : q ≤ p) (hcv : pr_cv po pe wc H c0 k p q = true) (A : ps_Any H po ct sp sb pe wc) : ps_Any H po ct (upd sp c0 (nI p)) (upd sb c0 (nI q)) pe wc := by
  obtain ⟨P, Q, K, T, C, S⟩ := A
  obtain ⟨h1, ⟨h2, h3⟩, h4, -, -⟩ := S c0 h0
  have ek : K c0 = k := (nI_eq (by omega) (by omega)).mp (h3.symm.trans hct)
  subst ek
  exact ⟨_, _, _, _, _, ps_set (p := p) (q := q) S h1 h2 h3 h4 (fun c _ => ⟨rfl, rfl⟩) (fun x _ => ⟨rfl, rfl⟩) hp hq (fun _ => ⟨fun z => ps_cvE hH h2 hq h4 z hcv, fun z => ps_cvF h2 hq h4 z hcv⟩)⟩
theorem ps_anyC (A : ps_Any H po ct sp sb pe wc) : ∀ c, c < 4 → pr_C po ct sp sb pe c := by
  obtain ⟨P, Q, K, T, C, S⟩ := A
  exact ps_StC S
end PS38
