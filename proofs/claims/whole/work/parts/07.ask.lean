theorem os_Fi1_t {T k p : Nat} {ev : Nat → os_E} {sa : Nat → Int32} (h : (ev k).2 / 64 < T) (hp : (ev k).1 = p) : (os_Fi T ev sa (k + 1)).1 p = sa k ∧ (os_Fi T ev sa (k + 1)).2.1 p = (os_Fi T ev sa k).2.1 p + 1 := by
  rw [os_Fi_t h, hp]
  exact ⟨pk_us, pk_us⟩
theorem os_Fi1_f {T k p : Nat} {ev : Nat → os_E} {sa : Nat → Int32} (h : ¬ (ev k).2 / 64 < T ∨ (ev k).1 ≠ p) : (os_Fi T ev sa (k + 1)).1 p = (os_Fi T ev sa k).1 p ∧ (os_Fi T ev sa (k + 1)).2.1 p = (os_Fi T ev sa k).2.1 p := by
  by_cases q : (ev k).2 / 64 < T
  · have hp : p ≠ (ev k).1 := by
      rcases h with h | h
      · exact absurd q h
      · exact Ne.symm h
    rw [os_Fi_t q]
    exact ⟨pk_un hp, pk_un hp⟩
  · rw [os_Fi_f q]
    exact ⟨rfl, rfl⟩
section
variable {post : Int32 → Prop} {ic hz x : Int32} {rt rd rm ip ir ep er sa cs : Nat → Int32} {ev : Nat → os_E} {m T : Nat}
theorem os_xst {p : Nat} (hm : m ≤ 96) (hp : p < 4) (hx : os_Xok ep er ev m) (hT : ∀ a, a < 8192 → (x < nI a ↔ T ≤ a)) (H : post ((os_Fi T ev sa m).1 p)) : ∀ d k : Nat, k + d = m → wX_state_22 post (nI p) x ic (nI m) hz rt rd rm ip ir ep er sa cs (d + 1) ((os_Fi T ev sa k).1 p) (nI k) := by
  intro d
  induction d with
  | zero =>
    intro k hk
    have e : k = m := by omega
    subst e
    exact br_t (nI_le (by omega) (by omega)) H
  | succ d ih =>
    intro k hk
    have ck : (nI k).toNatClampNeg = k := nI_clamp (by omega)
    have vk : vp_in (nI k) 96 := vp_in_nI (by omega) (by decide)
    obtain ⟨h1, h2, h3⟩ := hx k (by omega)
    have b := os_x_r h3
    have p4 := h3.1
    have I := ih (k + 1) (by omega)
    refine br_f (nI_ge (by omega) (by omega)) ⟨vk, ?_⟩
    rw [ck]
    refine pk_eq (ev k).1 p (fun z => ⟨vk, ?_⟩) (fun z => ?_) h1
    · unfold wpX_timeOf
      rw [h2, os_tmu (by omega)]
      refine br_c (fun w => ?_) (fun w => ⟨vk, nm_e ?_⟩)
      · have w' := (hT _ (by omega)).mp w
        rw [(os_Fi1_f (Or.inl (by omega))).1] at I
        exact nm_r (nI_1 k) I
      · have w' : ¬ T ≤ (ev k).2 / 64 := fun a => w ((hT _ (by omega)).mpr a)
        rw [(os_Fi1_t (by omega) z).1] at I
        exact nm_r (nI_1 k) I
    · rw [(os_Fi1_f (Or.inr z)).1] at I
      exact nm_r (nI_1 k) I
theorem os_xha {p : Nat} (hm : m ≤ 96) (hp : p < 4) (hx : os_Xok ep er ev m) (hT : ∀ a, a < 8192 → (x < nI a ↔ T ≤ a)) (H : post ((os_Fi T ev sa m).2.1 p)) : ∀ d k : Nat, k + d = m → wX_handled_25 post (nI p) x ic (nI m) hz rt rd rm ip ir ep er sa cs (d + 1) ((os_Fi T ev sa k).2.1 p) (nI k) := by
  intro d
  induction d with
  | zero =>
    intro k hk
    have e : k = m := by omega
    subst e
    exact br_t (nI_le (by omega) (by omega)) H
  | succ d ih =>
    intro k hk
    have ck : (nI k).toNatClampNeg = k := nI_clamp (by omega)
    have vk : vp_in (nI k) 96 := vp_in_nI (by omega) (by decide)
    obtain ⟨h1, h2, h3⟩ := hx k (by omega)
    have b := os_x_r h3
    have p4 := h3.1
    have I := ih (k + 1) (by omega)
    refine br_f (nI_ge (by omega) (by omega)) ⟨vk, ?_⟩
    rw [ck]
    refine pk_eq (ev k).1 p (fun z => ⟨vk, ?_⟩) (fun z => ?_) h1
    · unfold wpX_timeOf
      rw [h2, os_tmu (by omega)]
      refine br_c (fun w => ?_) (fun w => nm_e ?_)
      · have w' := (hT _ (by omega)).mp w
        rw [(os_Fi1_f (Or.inl (by omega))).2] at I
        exact nm_r (nI_1 k) I
      · have w' : ¬ T ≤ (ev k).2 / 64 := fun a => w ((hT _ (by omega)).mpr a)
        rw [(os_Fi1_t (by omega) z).2] at I
        exact nm_r (nI_1 k) I
    · rw [(os_Fi1_f (Or.inr z)).2] at I
      exact nm_r (nI_1 k) I
theorem os_xco (hm : m ≤ 96) (hx : os_Xok ep er ev m) (hT : ∀ a, a < 8192 → (x < nI a ↔ T ≤ a)) (H : post (os_sum (os_Fi T ev sa m))) : ∀ d k : Nat, k + d = m → wX_countEventsUpTo_4 post x ic (nI m) hz rt rd rm ip ir ep er sa cs (d + 1) (os_sum (os_Fi T ev sa k)) (nI k) := by
  intro d
  induction d with
  | zero =>
    intro k hk
    have e : k = m := by omega
    subst e
    exact br_t (nI_le (by omega) (by omega)) H
  | succ d ih =>
    intro k hk
    have ck : (nI k).toNatClampNeg = k := nI_clamp (by omega)
    have vk : vp_in (nI k) 96 := vp_in_nI (by omega) (by decide)
    obtain ⟨h1, h2, h3⟩ := hx k (by omega)
    have b := os_x_r h3
    have I := ih (k + 1) (by omega)
    refine br_f (nI_ge (by omega) (by omega)) ⟨vk, ?_⟩
    rw [ck]
    unfold wpX_timeOf
    rw [h2, os_tmu (by omega)]
    refine br_c (fun w => ?_) (fun w => nm_e ?_)
    · have w' := (hT _ (by omega)).mp w
      rw [os_Fi_f (by omega)] at I
      exact nm_r (nI_1 k) I
    · have w' : ¬ T ≤ (ev k).2 / 64 := fun a => w ((hT _ (by omega)).mpr a)
      rw [os_sum_t (by omega) h3.1] at I
      exact nm_r (nI_1 k) I
end
theorem os_T {x : Int32} (h : -1 ≤ x.toInt) : ∃ T : Nat, ∀ a, a < 8192 → (x < nI a ↔ T ≤ a) :=
  ⟨(x.toInt + 1).toNat, fun a ha => by rw [Int32.lt_iff_toInt_lt, nI_toInt (by omega)]; omega⟩
theorem os_T200 : ∀ a, a < 8192 → ((200 : Int32) < nI a ↔ 201 ≤ a) := by
  intro a ha
  have h := nI_ltI (a := 200) (b := a) (by decide) (by omega)
  exact h.trans (by omega)
def os_Pr (p : Int32) : Prop := ∃ j : Nat, j < 4 ∧ p = nI j
theorem os_isP_t {post : Int32 → Prop} {j : Nat} (h : j < 4) (H : post 1) : wpX_isProcess post (nI j) :=
  br_f (nI_pos (by omega)) (br_f (nI_ge (b := 4) h (by decide)) H)
theorem os_isP_f {post : Int32 → Prop} {p : Int32} (h : ¬ os_Pr p) (H : post 0) : wpX_isProcess post p := by
  refine br_c (fun _ => H) (fun a => br_c (fun _ => H) (fun b => ?_))
  obtain ⟨j, hj, rfl⟩ := nI_of a
  have c : ¬ 4 ≤ j := fun q => b (nI_le (a := 4) q hj)
  exact absurd ⟨j, by omega, rfl⟩ h
section
variable {post : Int32 → Prop} {v : SY}
theorem os_bad_t {j : Nat} (h : j < 4) (H : post 0) : wpY_bad post v (nI j) :=
  br_f (nI_pos (by omega)) (br_t (nI_le (b := 3) (by omega) (by decide)) H)
theorem os_bad_f {p : Int32} (h : ¬ os_Pr p) (H : post 1) : wpY_bad post v p := by
  refine br_c (fun _ => H) (fun a => br_c (fun b => ?_) (fun _ => H))
  obtain ⟨j, hj, rfl⟩ := nI_of a
  have c := (nI_leI (a := j) (b := 3) hj (by decide)).mp b
  exact absurd ⟨j, by omega, rfl⟩ h
end
