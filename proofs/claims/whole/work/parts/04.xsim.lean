def os_sw (ev : Nat → os_E) (a b : Nat) : Nat → os_E := fun j => if j = a then ev b else if j = b then ev a else ev j
theorem os_sw_a {ev : Nat → os_E} {a b : Nat} : os_sw ev a b a = ev b := if_pos rfl
theorem os_sw_b {ev : Nat → os_E} {a b : Nat} : os_sw ev a b b = ev a := by
  unfold os_sw
  by_cases h : b = a
  · rw [if_pos h, h]
  · rw [if_neg h, if_pos rfl]
theorem os_sw_n {ev : Nat → os_E} {a b j : Nat} (h1 : j ≠ a) (h2 : j ≠ b) : os_sw ev a b j = ev j := by
  unfold os_sw
  rw [if_neg h1, if_neg h2]
def os_ge (i : Nat) : Nat → Bool := fun j => decide (i ≤ j)
theorem os_ge_t {i j : Nat} (h : i ≤ j) : os_ge i j = true := decide_eq_true h
theorem os_ge_f {i j : Nat} (h : j < i) : os_ge i j = false := decide_eq_false (by omega)
theorem os_ge_i {i j : Nat} (h : os_ge i j = true) : i ≤ j := of_decide_eq_true h
theorem os_pd_sw {ev : Nat → os_E} {i e m : Nat} (h1 : i ≤ e) (h2 : e < m) : (os_pd ev (os_ge i) m).Perm (ev e :: os_pd (os_sw ev i e) (os_ge (i + 1)) m) := by
  have a := os_pd_rm (ev := ev) (ac := os_ge i) e h2 (os_ge_t h1)
  by_cases he : e = i
  · subst he
    have c : os_pd ev (os_rm (os_ge e) e) m = os_pd (os_sw ev e e) (os_ge (e + 1)) m := by
      refine os_pd_congr (fun j hj => ?_) (fun j hj hc => ?_)
      · by_cases q : j = e
        · subst q
          rw [os_rm_s, os_ge_f (by omega)]
        · rw [os_rm_n q]
          by_cases q2 : e ≤ j
          · rw [os_ge_t q2, os_ge_t (by omega)]
          · rw [os_ge_f (by omega), os_ge_f (by omega)]
      · have q : j ≠ e := by
          intro q
          subst q
          rw [os_rm_s] at hc
          exact absurd hc (by decide)
        rw [os_sw_n q q]
    rw [← c]
    exact a
  · have b := os_pd_rm (ev := ev) (ac := os_rm (os_ge i) e) (m := m) i (by omega) (by rw [os_rm_n (by omega), os_ge_t (Nat.le_refl _)])
    have d := os_pd_rm (ev := os_sw ev i e) (ac := os_ge (i + 1)) e h2 (os_ge_t (by omega))
    rw [os_sw_b] at d
    have c : os_pd ev (os_rm (os_rm (os_ge i) e) i) m = os_pd (os_sw ev i e) (os_rm (os_ge (i + 1)) e) m := by
      refine os_pd_congr (fun j hj => ?_) (fun j hj hc => ?_)
      · by_cases q : j = e
        · subst q
          rw [os_rm_s, os_rm_n he, os_rm_s]
        · rw [os_rm_n q]
          by_cases q2 : j = i
          · subst q2
            rw [os_rm_s, os_ge_f (by omega)]
          · rw [os_rm_n q2, os_rm_n q]
            by_cases q3 : i ≤ j
            · rw [os_ge_t q3, os_ge_t (by omega)]
            · rw [os_ge_f (by omega), os_ge_f (by omega)]
      · have q : j ≠ i := by
          intro q
          subst q
          rw [os_rm_s] at hc
          exact absurd hc (by decide)
        have q2 : j ≠ e := by
          intro q2
          subst q2
          rw [os_rm_n q, os_rm_s] at hc
          exact absurd hc (by decide)
        rw [os_sw_n q q2]
    rw [← c] at d
    exact a.trans ((b.trans d.symm).cons _)
theorem os_pd_len {ev : Nat → os_E} {ac : Nat → Bool} : ∀ {m : Nat}, (∀ j, j < m → ac j = true) → (os_pd ev ac m).length = m := by
  intro m
  induction m with
  | zero => intro _; rfl
  | succ m ih =>
    intro h
    unfold os_pd
    rw [if_pos (h m (by omega)), List.length_cons, ih (fun j hj => h j (by omega))]
theorem os_Xok_sw {ep er : Nat → Int32} {ev : Nat → os_E} {i e m : Nat} (hi : i < m) (he : e < m) (h : os_Xok ep er ev m) : os_Xok (upd (upd ep e (ep i)) i (ep e)) (upd (upd er e (er i)) i (er e)) (os_sw ev i e) m := by
  intro j hj
  by_cases q : j = i
  · subst q
    rw [pk_us, pk_us, os_sw_a]
    exact h e he
  · rw [pk_un q, pk_un q]
    by_cases q2 : j = e
    · subst q2
      rw [pk_us, pk_us, os_sw_b]
      exact h i hi
    · rw [pk_un q2, pk_un q2, os_sw_n q q2]
      exact h j hj
def os_ad (ev : Nat → os_E) (m : Nat) (x : os_E) : Nat → os_E := fun j => if j = m then x else ev j
theorem os_ad_s {ev : Nat → os_E} {m : Nat} {x : os_E} : os_ad ev m x m = x := if_pos rfl
theorem os_ad_n {ev : Nat → os_E} {m j : Nat} {x : os_E} (h : j ≠ m) : os_ad ev m x j = ev j := if_neg h
theorem os_Xok_ad {ep er : Nat → Int32} {ev : Nat → os_E} {m : Nat} {x : os_E} (hx : os_wf x) (h : os_Xok ep er ev m) : os_Xok (upd ep m (nI x.1)) (upd er m (nI x.2)) (os_ad ev m x) (m + 1) := by
  intro j hj
  by_cases q : j = m
  · subst q
    rw [pk_us, pk_us, os_ad_s]
    exact ⟨rfl, rfl, hx⟩
  · rw [pk_un q, pk_un q, os_ad_n q]
    exact h j (by omega)
theorem os_pd_ad {ev : Nat → os_E} {ac : Nat → Bool} {m : Nat} {x : os_E} (h : ac m = true) : os_pd (os_ad ev m x) ac (m + 1) = [x] ++ os_pd ev ac m := by
  have e : os_pd (os_ad ev m x) ac m = os_pd ev ac m := os_pd_congr (fun _ _ => rfl) (fun j hj _ => os_ad_n (by omega))
  show (if ac m = true then os_ad ev m x m :: os_pd (os_ad ev m x) ac m else os_pd (os_ad ev m x) ac m) = _
  rw [if_pos h, os_ad_s, e]
  rfl
theorem os_xstep {tg dl : Nat → Nat} {mk : Nat → Int32} {L0 : List os_E} {ev ev2 : Nat → os_E} {sa st : Nat → Int32} {i m e : Nat} {s : Int32} (h1 : i ≤ e) (h2 : e < m) (hmin : ∀ j, i ≤ j → j < m → (ev e).2 ≤ (ev j).2) (P : os_Pre tg dl mk L0 ev sa i (os_pd ev (os_ge i) m) st) (hev : ∀ j, j < m → ev2 j = os_sw ev i e j) (hs : s = os_ns st (ev e)) : os_Pre tg dl mk L0 ev2 (upd sa i s) (i + 1) (os_sn tg dl mk (ev e) s ++ os_pd (os_sw ev i e) (os_ge (i + 1)) m) (upd st (ev e).1 s) := by
  have e2 : ev2 i = ev e := (hev i (by omega)).trans os_sw_a
  have e3 : upd sa i s i = s := pk_us
  refine os_Pre_s.mpr ⟨os_pd ev (os_ge i) m, st, os_pd (os_sw ev i e) (os_ge (i + 1)) m, os_Pre_congr i _ _ (fun j hj => ⟨?_, ?_⟩) P, ?_, ?_, ?_, ?_, ?_⟩
  · rw [hev j (by omega), os_sw_n (by omega) (by omega)]
  · exact (pk_un (by omega)).symm
  · rw [e2]
    exact os_pd_sw h1 h2
  · rw [e2]
    intro x hx
    obtain ⟨j, j1, j2, rfl⟩ := os_pd_mem.mp hx
    exact hmin j (os_ge_i j2) j1
  · rw [e2, e3]
    exact hs
  · rw [e2, e3]
  · rw [e2, e3]
section
variable {post : SX → Prop} {ic ec hz : Int32} {rt rd rm ip ir ep er sa cs : Nat → Int32} {tg dl : Nat → Nat}
theorem os_x6 {L0 : List os_E} (R : os_Rul tg dl rt rd) (H : ∀ (m : Nat) (ep er sa cs : Nat → Int32) (ev : Nat → os_E) (st : Nat → Int32), m ≤ 96 → os_Xok ep er ev m → os_Pre tg dl rm L0 ev sa m [] st → post (ic, nI m, hz, rt, rd, rm, ip, ir, ep, er, sa, cs)) :
    ∀ (d i m : Nat) (ep er sa cs : Nat → Int32) (ev : Nat → os_E) (st : Nat → Int32), i + d = 96 → i ≤ m → os_Xok ep er ev m → (∀ p, p < 4 → cs p = st p) → os_Pre tg dl rm L0 ev sa i (os_pd ev (os_ge i) m) st → m = i + (os_pd ev (os_ge i) m).length → i + os_wt (os_pd ev (os_ge i) m) ≤ 96 → wX_simulate_6 post (d + 1) (nI i) ic (nI m) hz rt rd rm ip ir ep er sa cs := by
  intro d
  induction d with
  | zero =>
    intro i m ep er sa cs ev st hd him hx hcs P hlen hwt
    have g := os_wt_ge (L := os_pd ev (os_ge i) m)
    have e : i = m := by omega
    subst e
    rw [List.eq_nil_of_length_eq_zero (l := os_pd ev (os_ge i) i) (by omega)] at P
    exact br_t (nI_le (by omega) (by omega)) (H i ep er sa cs ev st (by omega) hx P)
  | succ d ih =>
    intro i m ep er sa cs ev st hd him hx hcs P hlen hwt
    have g := os_wt_ge (L := os_pd ev (os_ge i) m)
    by_cases hi : i < m
    · refine br_f (nI_ge hi (by omega)) (br_f (nI_ge (b := 96) (by omega) (by decide)) ?_)
      refine os_xbring (by omega) hi hx (fun e h1 h2 h3 => ?_)
      have hp := os_pd_sw (ev := ev) h1 h2
      have hw := os_wt_perm hp
      have hl := hp.length_eq
      have g2 := os_wt_ge (L := os_pd (os_sw ev i e) (os_ge (i + 1)) m)
      have x1 := os_Xok_sw hi h2 hx
      have ee : os_sw ev i e i = ev e := os_sw_a
      have ws := os_wt_sn (tg := tg) (dl := dl) (mk := rm) (e := ev e) (s := os_ns st (ev e))
      have we : os_wf (ev e) := (hx e h2).2.2
      rw [List.length_cons] at hl
      have hw' : os_wt (os_pd ev (os_ge i) m) = (ev e).2 % 4 + 1 + os_wt (os_pd (os_sw ev i e) (os_ge (i + 1)) m) := hw
      dsimp only
      refine os_xhandle (ev := os_sw ev i e) (st := st) (s := os_ns st (ev e)) (by omega) hi x1 R hcs (by rw [ee]) (by rw [ee]; intro z; omega) (fun hs => ?_) (fun x hs hm => ?_)
      · rw [ee] at hs
        have Q := os_xstep (s := os_ns st (ev e)) h1 h2 h3 P (ev2 := os_sw ev i e) (fun _ _ => rfl) rfl
        rw [hs] at Q
        dsimp only
        rw [ee]
        refine nm_r (nI_1 i) (ih (i + 1) m _ _ _ _ (os_sw ev i e) (upd st (ev e).1 (os_ns st (ev e))) (by omega) (by omega) x1 ?_ Q (by omega) (by omega))
        intro p h4
        by_cases q : p = (ev e).1
        · subst q
          rw [pk_us, pk_us]
        · rw [pk_un q, pk_un q]
          exact hcs p h4
      · rw [ee] at hs
        have Q := os_xstep (s := os_ns st (ev e)) h1 h2 h3 P (ev2 := os_ad (os_sw ev i e) m x) (fun j hj => os_ad_n (by omega)) rfl
        have hpd := os_pd_ad (ev := os_sw ev i e) (ac := os_ge (i + 1)) (m := m) (x := x) (os_ge_t (by omega))
        rw [hs] at Q ws
        have wx : os_wf x := os_sn_wf (tg := tg) (dl := dl) (mk := rm) (fun p => (R.1 p).1) (fun p => (R.1 p).2.2) we (hs ▸ List.mem_singleton.mpr rfl)
        rw [← hpd] at Q
        have wa := os_wt_app (L := [x]) (M := os_pd (os_sw ev i e) (os_ge (i + 1)) m)
        rw [← hpd] at wa
        have la : (os_pd (os_ad (os_sw ev i e) m x) (os_ge (i + 1)) (m + 1)).length = 1 + (os_pd (os_sw ev i e) (os_ge (i + 1)) m).length := by
          rw [hpd, List.length_append]
          rfl
        dsimp only
        rw [ee]
        refine nm_r (nI_1 i) (ih (i + 1) (m + 1) _ _ _ _ (os_ad (os_sw ev i e) m x) (upd st (ev e).1 (os_ns st (ev e))) (by omega) (by omega) (os_Xok_ad wx x1) ?_ Q (by omega) (by omega))
        intro p h4
        by_cases q : p = (ev e).1
        · subst q
          rw [pk_us, pk_us]
        · rw [pk_un q, pk_un q]
          exact hcs p h4
    · have e : i = m := by omega
      subst e
      rw [List.eq_nil_of_length_eq_zero (l := os_pd ev (os_ge i) i) (by omega)] at P
      exact br_t (nI_le (by omega) (by omega)) (H i ep er sa cs ev st (by omega) hx P)
theorem os_xsim {n : Nat} {iv : Nat → os_E} (hn : n ≤ 24) (hi : os_Xok ip ir iv n) (R : os_Rul tg dl rt rd) (H : ∀ (m : Nat) (ep er sa cs : Nat → Int32) (ev : Nat → os_E) (st : Nat → Int32), m ≤ 96 → os_Xok ep er ev m → os_Pre tg dl rm (os_pd iv (fun _ => true) n) ev sa m [] st → post (nI n, nI m, hz, rt, rd, rm, ip, ir, ep, er, sa, cs)) : wpX_simulate post (nI n, ec, hz, rt, rd, rm, ip, ir, ep, er, sa, cs) := by
  unfold wpX_simulate
  refine os_xstart hn (fun ep' er' cs' h1 h2 => ?_)
  have e0 : os_pd iv (os_ge 0) n = os_pd iv (fun _ => true) n := os_pd_congr (fun j _ => os_ge_t (Nat.zero_le j)) (fun _ _ _ => rfl)
  have l0 : (os_pd iv (fun _ => true) n).length = n := os_pd_len (fun _ _ => rfl)
  have w0 := os_wt_le (L := os_pd iv (fun _ => true) n)
  refine ⟨97, os_x6 (L0 := os_pd iv (fun _ => true) n) R H 96 0 n ep' er' sa cs' iv (fun _ => 0) rfl (by omega) ?_ h2 ?_ ?_ ?_⟩
  · intro j hj
    rw [(h1 j hj).1, (h1 j hj).2]
    exact hi j hj
  · rw [e0]
    exact ⟨List.Perm.refl _, rfl⟩
  · rw [e0]
    omega
  · rw [e0]
    omega
end
