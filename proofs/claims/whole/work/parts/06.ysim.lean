def os_dn (dn : Nat → Int32) : Nat → Bool := fun j => decide (dn j = 0)
theorem os_dn_t {dn : Nat → Int32} {j : Nat} (h : dn j = 0) : os_dn dn j = true := decide_eq_true h
theorem os_dn_f {dn : Nat → Int32} {j : Nat} (h : ¬ dn j = 0) : os_dn dn j = false := decide_eq_false h
theorem os_dn_i {dn : Nat → Int32} {j : Nat} (h : os_dn dn j = true) : dn j = 0 := of_decide_eq_true h
theorem os_Yok_ad {ti pr va li : Nat → Int32} {ev : Nat → os_E} {m : Nat} {x : os_E} (hx : os_wf x) (h : os_Yok ti pr va li ev m) : os_Yok (upd ti m (nI (x.2 / 64))) (upd pr m (nI x.1)) (upd va m (nI (x.2 / 4 % 16))) (upd li m (nI (x.2 % 4))) (os_ad ev m x) (m + 1) := by
  intro j hj
  by_cases q : j = m
  · subst q
    rw [pk_us, pk_us, pk_us, pk_us, os_ad_s]
    exact ⟨rfl, rfl, rfl, rfl, hx⟩
  · rw [pk_un q, pk_un q, pk_un q, pk_un q, os_ad_n q]
    exact h j (by omega)
section
variable {post : SY → Prop} {inj hor la cnt : Int32} {tgs dls mks ti pr va li dn sts hbs : Nat → Int32} {tg dl : Nat → Nat}
theorem os_y63 {L0 : List os_E} {n T : Nat} {iv : Nat → os_E} {x1 : Int32} (R : os_Rul tg dl tgs dls) (hT : ∀ a, a < 8192 → (x1 < nI a ↔ T ≤ a))
    (H : ∀ (cnt la : Int32) (ti pr va li dn sts hbs st hb : Nat → Int32) (q : Nat), os_Yok ti pr va li iv n → (∀ p, p < 4 → sts p = st p ∧ hbs p = hb p) → os_Res tg dl mks T q L0 os_c0 (st, hb, la) → post (inj, hor, cnt, la, tgs, dls, mks, ti, pr, va, li, dn, sts, hbs)) :
    ∀ (d k m q : Nat) (la : Int32) (ti pr va li dn sts hbs st hb : Nat → Int32) (ev : Nat → os_E), k + d = 96 → os_Yok ti pr va li ev m → n ≤ m → (∀ j, j < n → ev j = iv j) → (∀ p, p < 4 → sts p = st p ∧ hbs p = hb p) → m = q + (os_pd ev (os_dn dn) m).length → q + os_wt (os_pd ev (os_dn dn) m) ≤ 96 → (∀ r o, os_Res tg dl mks T r (os_pd ev (os_dn dn) m) (st, hb, la) o → os_Res tg dl mks T (r + q) L0 os_c0 o) → (q = k ∨ ∀ x, x ∈ os_pd ev (os_dn dn) m → T ≤ x.2 / 64) →
      wY_simulate_63 post x1 (d + 1) (nI k) inj hor (nI m) la tgs dls mks ti pr va li dn sts hbs := by
  intro d
  induction d with
  | zero =>
    intro k m q la ti pr va li dn sts hbs st hb ev hk hy hnm hiv hst hlen hwt hres hor'
    have g := os_wt_ge (L := os_pd ev (os_dn dn) m)
    refine br_t (nI_le (a := 96) (by omega) (by omega)) (H _ _ _ _ _ _ _ _ _ st hb (0 + q) ?_ hst (hres 0 _ (os_Res_0.mpr ⟨?_, rfl⟩)))
    · intro j hj
      rw [← hiv j hj]
      exact hy j (by omega)
    · rcases hor' with e | h
      · rw [List.eq_nil_of_length_eq_zero (l := os_pd ev (os_dn dn) m) (by omega)]
        intro x hx
        exact absurd hx List.not_mem_nil
      · exact h
  | succ d ih =>
    intro k m q la ti pr va li dn sts hbs st hb ev hk hy hnm hiv hst hlen hwt hres hor'
    have g := os_wt_ge (L := os_pd ev (os_dn dn) m)
    refine br_f (nI_ge (b := 96) (by omega) (by decide)) (os_ynext (by omega) hy (fun h0 => ?_) (fun b hb' hz hmin => ?_))
    · refine br_t (by decide) (nm_r (nI_1 k) (ih (k + 1) m q la ti pr va li dn sts hbs st hb ev (by omega) hy hnm hiv hst hlen hwt hres (Or.inr ?_)))
      intro x hx
      obtain ⟨j, j1, j2, rfl⟩ := os_pd_mem.mp hx
      exact absurd (os_dn_i j2) (h0 j j1)
    · have cb : (nI b).toNatClampNeg = b := nI_clamp (by omega)
      obtain ⟨_, t1, _, _, w1⟩ := hy b hb'
      have hw1 := os_x_r w1
      have hbL : ev b ∈ os_pd ev (os_dn dn) m := os_pd_mem.mpr ⟨b, hb', os_dn_t hz, rfl⟩
      refine br_f (nI_pos (by omega)) ⟨vp_in_nI (by omega) (by decide), ?_⟩
      rw [cb, t1]
      have hmL : ∀ x, x ∈ os_pd ev (os_dn dn) m → (ev b).2 ≤ x.2 := by
        intro x hx
        obtain ⟨j, j1, j2, rfl⟩ := os_pd_mem.mp hx
        exact hmin j j1 (os_dn_i j2)
      refine br_c (fun z => ?_) (fun z => ?_)
      · refine nm_r (nI_1 k) (ih (k + 1) m q la ti pr va li dn sts hbs st hb ev (by omega) hy hnm hiv hst hlen hwt hres (Or.inr ?_))
        intro x hx
        have a1 := (hT _ (by omega)).mp z
        have a2 := hmL x hx
        omega
      · have zT : (ev b).2 / 64 < T := by
          have a1 : ¬ T ≤ (ev b).2 / 64 := fun a => z ((hT _ (by omega)).mpr a)
          omega
        have qk : q = k := by
          rcases hor' with e | h
          · exact e
          · have := h _ hbL
            omega
        have hp := os_pd_rm (ev := ev) (ac := os_dn dn) b hb' (os_dn_t hz)
        have hw : os_wt (os_pd ev (os_dn dn) m) = (ev b).2 % 4 + 1 + os_wt (os_pd ev (os_rm (os_dn dn) b) m) := os_wt_perm hp
        have hl := hp.length_eq
        rw [List.length_cons] at hl
        have g2 := os_wt_ge (L := os_pd ev (os_rm (os_dn dn) b) m)
        have ws := os_wt_sn (tg := tg) (dl := dl) (mk := mks) (e := ev b) (s := os_ns st (ev b))
        have hst' : ∀ p, p < 4 → upd sts (ev b).1 (os_ns st (ev b)) p = upd st (ev b).1 (os_ns st (ev b)) p ∧ upd hbs (ev b).1 (hb (ev b).1 + 1) p = upd hb (ev b).1 (hb (ev b).1 + 1) p := by
          intro p hp4
          by_cases e : p = (ev b).1
          · subst e
            rw [pk_us, pk_us, pk_us, pk_us]
            exact ⟨rfl, rfl⟩
          · rw [pk_un e, pk_un e, pk_un e, pk_un e]
            exact hst p hp4
        have hres' : ∀ r o, os_Res tg dl mks T r (os_sn tg dl mks (ev b) (os_ns st (ev b)) ++ os_pd ev (os_rm (os_dn dn) b) m) (upd st (ev b).1 (os_ns st (ev b)), upd hb (ev b).1 (hb (ev b).1 + 1), nI ((ev b).2 / 64)) o → os_Res tg dl mks T (r + (q + 1)) L0 os_c0 o := by
          intro r o hr
          have e : r + (q + 1) = (r + 1) + q := by omega
          rw [e]
          exact hres (r + 1) o (os_Res_s.mpr ⟨ev b, _, hp, hmL, zT, hr⟩)
        refine os_yhandle (ev := ev) (st := st) (hb := hb) (s := os_ns st (ev b)) (by omega) hb' hy R hst rfl (by omega) (fun hs => ?_) (fun x hs hm => ?_)
        · have e1 : os_pd ev (os_dn (upd dn b 1)) m = os_pd ev (os_rm (os_dn dn) b) m := by
            refine os_pd_congr (fun j hj => ?_) (fun _ _ _ => rfl)
            by_cases e : j = b
            · subst e
              rw [os_rm_s]
              exact os_dn_f (by rw [pk_us]; decide)
            · rw [os_rm_n e]
              unfold os_dn
              rw [pk_un e]
          rw [hs] at hres'
          rw [← e1] at hres' hw hl
          exact nm_r (nI_1 k) (ih (k + 1) m (q + 1) _ _ _ _ _ _ _ _ _ _ ev (by omega) hy hnm hiv hst' (by omega) (by omega) hres' (Or.inl (by omega)))
        · have wx : os_wf x := os_sn_wf (tg := tg) (dl := dl) (mk := mks) (fun p => (R.1 p).1) (fun p => (R.1 p).2.2) w1 (hs ▸ List.mem_singleton.mpr rfl)
          have e1 : os_pd (os_ad ev m x) (os_dn (upd (upd dn b 1) m 0)) (m + 1) = [x] ++ os_pd ev (os_rm (os_dn dn) b) m := by
            rw [os_pd_ad (os_dn_t pk_us)]
            refine congrArg ([x] ++ ·) (os_pd_congr (fun j hj => ?_) (fun _ _ _ => rfl))
            have q1 : j ≠ m := by omega
            by_cases e : j = b
            · subst e
              rw [os_rm_s]
              exact os_dn_f (by rw [pk_un q1, pk_us]; decide)
            · rw [os_rm_n e]
              unfold os_dn
              rw [pk_un q1, pk_un e]
          rw [hs] at hres' ws
          have wa := os_wt_app (L := [x]) (M := os_pd ev (os_rm (os_dn dn) b) m)
          have lb : ([x] ++ os_pd ev (os_rm (os_dn dn) b) m).length = 1 + (os_pd ev (os_rm (os_dn dn) b) m).length := by
            rw [List.length_append]
            rfl
          rw [← e1] at hres' wa lb
          exact nm_r (nI_1 k) (ih (k + 1) (m + 1) (q + 1) _ _ _ _ _ _ _ _ _ _ (os_ad ev m x) (by omega) (os_Yok_ad wx hy) (by omega) (fun j hj => (os_ad_n (by omega)).trans (hiv j hj)) hst' (by omega) (by omega) hres' (Or.inl (by omega)))
theorem os_y36 {x1 : Int32} {fc : Int32} (H : ∀ sts hbs : Nat → Int32, (∀ p, p < 4 → sts p = 0 ∧ hbs p = 0) → ∃ n63 : Nat, wY_simulate_63 post x1 n63 0 inj hor fc la tgs dls mks ti pr va li dn sts hbs) : ∀ (d i : Nat) (sts hbs : Nat → Int32), i + d = 4 → (∀ p, p < i → sts p = 0 ∧ hbs p = 0) → wY_simulate_36 post x1 inj hor fc la (d + 1) (nI i) tgs dls mks ti pr va li dn sts hbs := by
  intro d
  induction d with
  | zero =>
    intro i sts hbs hi h
    exact br_t (nI_le (a := 4) (by omega) (by omega)) (H sts hbs (fun p hp => h p (by omega)))
  | succ d ih =>
    intro i sts hbs hi h
    have hc : (nI i).toNatClampNeg = i := nI_clamp (by omega)
    have v4 : vp_in (nI i) 4 := vp_in_nI (by omega) (by decide)
    refine br_f (nI_ge (b := 4) (by omega) (by decide)) ⟨v4, nm_e ⟨v4, nm_e (nm_r (nI_1 i) (ih (i + 1) _ _ (by omega) ?_))⟩⟩
    intro j hj
    rw [hc]
    by_cases e : j = i
    · subst e
      exact ⟨pk_us, pk_us⟩
    · rw [pk_un e, pk_un e]
      exact h j (by omega)
theorem os_y15 {x1 : Int32} {fc : Int32} (H : ∀ dn sts hbs : Nat → Int32, (∀ j, j < 96 → dn j = 0) → (∀ p, p < 4 → sts p = 0 ∧ hbs p = 0) → ∃ n63 : Nat, wY_simulate_63 post x1 n63 0 inj hor fc la tgs dls mks ti pr va li dn sts hbs) : ∀ (d i : Nat) (dn : Nat → Int32), i + d = 96 → (∀ j, j < i → dn j = 0) → wY_simulate_15 post x1 inj hor fc la (d + 1) (nI i) tgs dls mks ti pr va li dn sts hbs := by
  intro d
  induction d with
  | zero =>
    intro i dn hi h
    exact br_t (nI_le (a := 96) (by omega) (by omega)) ⟨5, os_y36 (fun sts hbs h2 => H dn sts hbs (fun j hj => h j (by omega)) h2) 4 0 sts hbs (by omega) (fun p hp => absurd hp (by omega))⟩
  | succ d ih =>
    intro i dn hi h
    have hc : (nI i).toNatClampNeg = i := nI_clamp (by omega)
    refine br_f (nI_ge (b := 96) (by omega) (by decide)) ⟨vp_in_nI (by omega) (by decide), nm_e (nm_r (nI_1 i) (ih (i + 1) _ (by omega) ?_))⟩
    intro j hj
    rw [hc, os_b0]
    by_cases e : j = i
    · subst e
      exact pk_us
    · rw [pk_un e]
      exact h j (by omega)
theorem os_ysim {n T : Nat} {iv : Nat → os_E} {x1 : Int32} (hn : n ≤ 24) (hy : os_Yok ti pr va li iv n) (R : os_Rul tg dl tgs dls) (hT : ∀ a, a < 8192 → (x1 < nI a ↔ T ≤ a))
    (H : ∀ (cnt la : Int32) (ti pr va li dn sts hbs st hb : Nat → Int32) (q : Nat), os_Yok ti pr va li iv n → (∀ p, p < 4 → sts p = st p ∧ hbs p = hb p) → os_Res tg dl mks T q (os_pd iv (fun _ => true) n) os_c0 (st, hb, la) → post (nI n, hor, cnt, la, tgs, dls, mks, ti, pr, va, li, dn, sts, hbs)) : wpY_simulate post (nI n, hor, cnt, la, tgs, dls, mks, ti, pr, va, li, dn, sts, hbs) x1 := by
  unfold wpY_simulate
  refine ⟨97, os_y15 (fun dn sts hbs h1 h2 => ⟨97, ?_⟩) 96 0 dn (by omega) (fun j hj => absurd hj (by omega))⟩
  have e0 : os_pd iv (os_dn dn) n = os_pd iv (fun _ => true) n := os_pd_congr (fun j hj => os_dn_t (h1 j (by omega))) (fun _ _ _ => rfl)
  have l0 : (os_pd iv (fun _ => true) n).length = n := os_pd_len (fun _ _ => rfl)
  have w0 := os_wt_le (L := os_pd iv (fun _ => true) n)
  refine os_y63 (L0 := os_pd iv (fun _ => true) n) (iv := iv) (n := n) R hT H 96 0 n 0 (-1) ti pr va li dn sts hbs (fun _ => 0) (fun _ => 0) iv rfl hy (by omega) (fun _ _ => rfl) h2 ?_ ?_ ?_ (Or.inl rfl)
  · rw [e0]
    omega
  · rw [e0]
    omega
  · rw [e0]
    exact fun r o h => h
end
