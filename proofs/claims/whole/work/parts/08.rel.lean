/-- both hold the same rules, horizon and number of injected events; X's and Y's first n cells are the same events iv; X's event arrays are a full run from them -/
def i_Rel (k : Nat) (u : SX) (v : SY) : Prop :=
  ∃ (tg dl : Nat → Nat) (n m : Nat) (iv ev : Nat → os_E) (st : Nat → Int32) (hz cnt la : Int32) (rt rd rm ip ir ep er sa cs ti pr va li dn sts hbs : Nat → Int32),
    u = (nI n, nI m, hz, rt, rd, rm, ip, ir, ep, er, sa, cs) ∧ v = (nI n, hz, cnt, la, rt, rd, rm, ti, pr, va, li, dn, sts, hbs) ∧ os_Rul tg dl rt rd ∧ -1 ≤ hz.toInt ∧ n ≤ 24 ∧ m ≤ 96 ∧ (n = 0 → m = 0) ∧ os_Xok ip ir iv n ∧ os_Yok ti pr va li iv n ∧ os_Xok ep er ev m ∧ os_Pre tg dl rm (os_pd iv (fun _ => true) n) ev sa m [] st
theorem i_up {k : Nat} {u : SX} {v : SY} (h : i_Rel k u v) : i_Rel (k + 5) u v := h
def os_fl (i : Nat) (x : Int32) : Nat → Int32 := fun j => if j < i then x else 0
theorem os_fl_0 {x : Int32} : os_fl 0 x = fun _ => 0 := by
  funext j
  exact if_neg (by omega)
theorem os_fl_s {i : Nat} {x : Int32} : upd (os_fl i x) i x = os_fl (i + 1) x := by
  funext j
  by_cases h : j = i
  · subst h
    rw [pk_us]
    exact (if_pos (by omega)).symm
  · rw [pk_un h]
    unfold os_fl
    by_cases q : j < i
    · rw [if_pos q, if_pos (by omega)]
    · rw [if_neg q, if_neg (by omega)]
theorem os_z_s {i : Nat} : upd (fun _ => 0) i 0 = fun _ => (0 : Int32) := by
  funext j
  unfold upd
  by_cases h : j = i
  · rw [if_pos h]
  · rw [if_neg h]
theorem os_xi {post : SX → Prop} {z1 z2 z3 z4 z5 z6 : Nat → Int32} (H : post (0, 0, -1, fun _ => 0, os_fl 4 1, os_fl 4 15, z1, z2, z3, z4, z5, z6)) : ∀ d i : Nat, i + d = 4 → wX_init_74 post 0 0 0 (d + 1) (nI i) (fun _ => 0) (os_fl i 1) (os_fl i 15) z1 z2 z3 z4 z5 z6 := by
  intro d
  induction d with
  | zero =>
    intro i hi
    have e : i = 4 := by omega
    subst e
    exact br_t (nI_le (a := 4) (by omega) (by omega)) H
  | succ d ih =>
    intro i hi
    have ci : (nI i).toNatClampNeg = i := nI_clamp (by omega)
    have v4 : vp_in (nI i) 4 := vp_in_nI (by omega) (by decide)
    refine br_f (nI_ge (b := 4) (by omega) (by decide)) ?_
    rw [ci]
    exact ⟨v4, nm_r os_z_s ⟨v4, nm_r os_fl_s ⟨v4, nm_r os_fl_s (nm_r (nI_1 i) (ih (i + 1) (by omega)))⟩⟩⟩
theorem os_yi {post : SY → Prop} {z0 z1 z2 z3 z4 z5 z6 z7 : Nat → Int32} (H : post (0, -1, 0, 0, z0, os_fl 4 1, os_fl 4 15, z1, z2, z3, z4, z5, z6, z7)) : ∀ d i : Nat, i + d = 4 → wY_init_81 post 0 0 0 0 (d + 1) (nI i) z0 (os_fl i 1) (os_fl i 15) z1 z2 z3 z4 z5 z6 z7 := by
  intro d
  induction d with
  | zero =>
    intro i hi
    have e : i = 4 := by omega
    subst e
    exact br_t (nI_le (a := 4) (by omega) (by omega)) H
  | succ d ih =>
    intro i hi
    have ci : (nI i).toNatClampNeg = i := nI_clamp (by omega)
    have v4 : vp_in (nI i) 4 := vp_in_nI (by omega) (by decide)
    refine br_f (nI_ge (b := 4) (by omega) (by decide)) ?_
    rw [ci]
    exact ⟨v4, nm_r os_fl_s ⟨v4, nm_r os_fl_s (nm_r (nI_1 i) (ih (i + 1) (by omega)))⟩⟩
theorem i_vc0 : wpX_init (fun u => wpY_init (fun v => i_Rel 0 u v)) := by
  have A : i_Rel 0 (0, 0, -1, fun _ => 0, os_fl 4 1, os_fl 4 15, fun _ => 0, fun _ => 0, fun _ => 0, fun _ => 0, fun _ => 0, fun _ => 0) (0, -1, 0, 0, fun _ => 0, os_fl 4 1, os_fl 4 15, fun _ => 0, fun _ => 0, fun _ => 0, fun _ => 0, fun _ => 0, fun _ => 0, fun _ => 0) := by
    refine ⟨fun _ => 0, fun _ => 1, 0, 0, fun _ => (0, 0), fun _ => (0, 0), fun _ => 0, -1, 0, 0, _, _, _, _, _, _, _, _, _, _, _, _, _, _, _, _, rfl, rfl, ⟨fun p => ⟨by dsimp only; omega, by dsimp only; omega, by dsimp only; omega⟩, fun p hp => ⟨rfl, if_pos hp⟩⟩, by decide, by omega, by omega, fun _ => rfl, fun j hj => absurd hj (by omega), fun j hj => absurd hj (by omega), fun j hj => absurd hj (by omega), ⟨List.Perm.refl _, rfl⟩⟩
  have B := fun z0 z1 z2 z3 z4 z5 z6 z7 post H => os_yi (post := post) (z0 := z0) (z1 := z1) (z2 := z2) (z3 := z3) (z4 := z4) (z5 := z5) (z6 := z6) (z7 := z7) H 4 0 rfl
  have C := fun z1 z2 z3 z4 z5 z6 post H => os_xi (post := post) (z1 := z1) (z2 := z2) (z3 := z3) (z4 := z4) (z5 := z5) (z6 := z6) H 4 0 rfl
  simp only [os_fl_0] at B C
  unfold wpX_init
  refine ⟨5, C _ _ _ _ _ _ _ ?_⟩
  unfold wpY_init
  exact ⟨5, B _ _ _ _ _ _ _ _ _ A⟩
theorem i_vc_rule {k : Nat} {u : SX} {v : SY} (I : i_Rel k u v) (hk : k + 5 ≤ 2560) (v1 : Int32) (v2 : Int32) (v3 : Int32) (v4 : Int32) : wpX_rule (fun r u' => wpY_rule (fun r' v' => r' = r ∧ i_Rel (k + 5) u' v') v v1 v2 v3 v4) u v1 v2 v3 v4 := by
  have J : i_Rel (k + 5) u v := I
  obtain ⟨tg, dl, n, m, iv, ev, st, hz, cnt, la, rt, rd, rm, ip, ir, ep, er, sa, cs, ti, pr, va, li, dn, sts, hbs, rfl, rfl, R, hh, hn, hm, h0, hi, hy, hx, P⟩ := I
  unfold wpX_rule wpY_rule
  dsimp only
  by_cases p1 : os_Pr v1
  · obtain ⟨a, ha, rfl⟩ := p1
    refine os_isP_t ha (br_f (by decide) ?_)
    by_cases p2 : os_Pr v2
    · obtain ⟨b, hb, rfl⟩ := p2
      refine os_isP_t hb (br_f (by decide) ?_)
      by_cases c1 : v3 < 1
      · exact br_t c1 (os_bad_t ha (br_t rfl (os_bad_t hb (br_t rfl (br_t c1 ⟨rfl, J⟩)))))
      by_cases c2 : 9 < v3
      · exact br_f c1 (br_t c2 (os_bad_t ha (br_t rfl (os_bad_t hb (br_t rfl (br_f c1 (br_t c2 ⟨rfl, J⟩)))))))
      by_cases c3 : v4 < 0
      · exact br_f c1 (br_f c2 (br_t c3 (os_bad_t ha (br_t rfl (os_bad_t hb (br_t rfl (br_f c1 (br_f c2 (br_t c3 ⟨rfl, J⟩)))))))))
      by_cases c4 : v4 ≤ 15
      · by_cases c5 : nI n ≤ 0
        · have e0 : n = 0 := by
            have := (nI_leI (a := n) (b := 0) (by omega) (by decide)).mp c5
            omega
          have em := h0 e0
          have va4 : vp_in (nI a) 4 := vp_in_nI ha (by decide)
          have ca : (nI a).toNatClampNeg = a := nI_clamp (by omega)
          obtain ⟨d, hd, hd1, hd9⟩ : ∃ d : Nat, v3 = nI d ∧ 1 ≤ d ∧ d ≤ 9 := by
            have q : ¬ v3 < 0 := fun q => c1 (Int32.lt_trans q (by decide))
            obtain ⟨d, hd, rfl⟩ := nI_of q
            refine ⟨d, rfl, ?_, ?_⟩
            · have : ¬ d < 1 := fun w => c1 (nI_lt (a := d) (b := 1) w (by decide))
              omega
            · have : ¬ 9 < d := fun w => c2 (nI_lt (a := 9) (b := d) w hd)
              omega
          subst hd
          have J' : i_Rel (k + 5) (nI n, nI m, hz, upd rt a (nI b), upd rd a (nI d), upd rm a v4, ip, ir, ep, er, sa, cs) (nI n, hz, cnt, la, upd rt a (nI b), upd rd a (nI d), upd rm a v4, ti, pr, va, li, dn, sts, hbs) := by
            refine ⟨fun p => if p = a then b else tg p, fun p => if p = a then d else dl p, n, m, iv, ev, st, hz, cnt, la, _, _, _, _, _, _, _, _, _, _, _, _, _, _, _, _, rfl, rfl, ⟨fun p => ?_, fun p hp => ?_⟩, hh, hn, hm, h0, hi, hy, hx, ?_⟩
            · dsimp only
              by_cases q : p = a
              · rw [if_pos q, if_pos q]
                exact ⟨hb, hd1, hd9⟩
              · rw [if_neg q, if_neg q]
                exact R.1 p
            · dsimp only
              by_cases q : p = a
              · subst q
                rw [pk_us, pk_us, if_pos rfl, if_pos rfl]
                exact ⟨rfl, rfl⟩
              · rw [pk_un q, pk_un q, if_neg q, if_neg q]
                exact R.2 p hp
            · subst em
              exact P
          rw [ca]
          exact br_f c1 (br_f c2 (br_f c3 (br_t c4 (br_t c5 ⟨va4, nm_e ⟨va4, nm_e ⟨va4, nm_e (os_bad_t ha (br_t rfl (os_bad_t hb (br_t rfl (br_f c1 (br_f c2 (br_f c3 (br_t c4 (br_t c5 ⟨va4, nm_e ⟨va4, nm_e ⟨va4, nm_e ⟨rfl, J'⟩⟩⟩⟩)))))))))⟩⟩⟩))))
        · exact br_f c1 (br_f c2 (br_f c3 (br_t c4 (br_f c5 (os_bad_t ha (br_t rfl (os_bad_t hb (br_t rfl (br_f c1 (br_f c2 (br_f c3 (br_t c4 (br_f c5 ⟨rfl, J⟩)))))))))))))
      · exact br_f c1 (br_f c2 (br_f c3 (br_f c4 (os_bad_t ha (br_t rfl (os_bad_t hb (br_t rfl (br_f c1 (br_f c2 (br_f c3 (br_f c4 ⟨rfl, J⟩)))))))))))
    · exact os_isP_f p2 (br_t rfl (os_bad_t ha (br_t rfl (os_bad_f p2 (br_f (by decide) ⟨rfl, J⟩)))))
  · exact os_isP_f p1 (br_t rfl (os_bad_f p1 (br_f (by decide) ⟨rfl, J⟩)))
