theorem os_or {k a b : Nat} (ha : a < 2 ^ k) (h : b * 2 ^ k + a < 2 ^ 32) : nI (b * 2 ^ k) ||| nI a = nI (b * 2 ^ k + a) := by
  have h1 : b * 2 ^ k ||| a = b * 2 ^ k + a := by rw [← Nat.shiftLeft_eq, Nat.shiftLeft_add_eq_or_of_lt ha]
  apply Int32.toBitVec_inj.mp
  apply BitVec.eq_of_toNat_eq
  rw [Int32.toBitVec_or, BitVec.toNat_or, pk_tn (by omega), pk_tn (by omega), pk_tn h, h1]
theorem os_rank {t v l : Nat} (ht : t ≤ 126) (hv : v < 16) (hl : l < 4) : ((nI t <<< ((6 : Int32) &&& 31)) ||| (nI v <<< ((2 : Int32) &&& 31))) ||| nI l = nI (t * 64 + v * 4 + l) := by
  rw [pk_shlN _ 6 (by decide) (by omega), pk_shlN _ 2 (by decide) (by omega)]
  rw [os_or (k := 6) (b := t) (a := v * 2 ^ 2) (by omega) (by omega)]
  have e : t * 2 ^ 6 + v * 2 ^ 2 = (t * 16 + v) * 2 ^ 2 := by omega
  rw [e, os_or (k := 2) (by omega) (by omega)]
theorem os_vlu {r : Nat} (h : r < 2 ^ 31) : (nI r >>> ((2 : Int32) &&& 31)) &&& 15 = nI (r / 4 % 16) := by
  rw [pk_shrN h _ 2 (by decide), pk_andN (by omega) 4 (by decide)]
theorem os_lfu {r : Nat} (h : r < 2 ^ 31) : nI r &&& 3 = nI (r % 4) := by
  rw [pk_andN (by omega) 2 (by decide)]
theorem os_tmu {r : Nat} (h : r < 2 ^ 31) : nI r >>> ((6 : Int32) &&& 31) = nI (r / 64) := by
  rw [pk_shrN h _ 6 (by decide)]
def os_Xok (ap ar : Nat → Int32) (ev : Nat → os_E) (m : Nat) : Prop := ∀ j, j < m → ap j = nI (ev j).1 ∧ ar j = nI (ev j).2 ∧ os_wf (ev j)
def os_Rul (tg dl : Nat → Nat) (rt rd : Nat → Int32) : Prop := (∀ p, tg p < 4 ∧ 1 ≤ dl p ∧ dl p ≤ 9) ∧ ∀ p, p < 4 → rt p = nI (tg p) ∧ rd p = nI (dl p)
section
variable {post : SX → Prop} {ic ec hz : Int32} {rt rd rm ip ir ep er sa cs : Nat → Int32} {tg dl : Nat → Nat}
theorem os_x22 {n : Nat} (hn : n ≤ 24) (H : ∀ ep' er' : Nat → Int32, (∀ j, j < n → ep' j = ip j ∧ er' j = ir j) → post (nI n, nI n, hz, rt, rd, rm, ip, ir, ep', er', sa, cs)) : ∀ (d i : Nat) (ep er : Nat → Int32), i + d = n → (∀ j, j < i → ep j = ip j ∧ er j = ir j) → wX_startSimulation_22 post (nI n) ec hz (d + 1) (nI i) rt rd rm ip ir ep er sa cs := by
  intro d
  induction d with
  | zero =>
    intro i ep er hi h
    refine br_t (nI_le (by omega) (by omega)) (H ep er (fun j hj => h j (by omega)))
  | succ d ih =>
    intro i ep er hi h
    have hc : (nI i).toNatClampNeg = i := nI_clamp (by omega)
    have v1 : vp_in (nI i) 24 := vp_in_nI (by omega) (by decide)
    have v2 : vp_in (nI i) 96 := vp_in_nI (by omega) (by decide)
    refine br_f (nI_ge (by omega) (by omega)) ⟨v1, v2, nm_e ⟨v1, v2, nm_e (nm_r (nI_1 i) (ih (i + 1) _ _ (by omega) ?_))⟩⟩
    intro j hj
    rw [hc]
    by_cases e : j = i
    · subst e
      exact ⟨pk_us, pk_us⟩
    · rw [pk_un e, pk_un e]
      exact h j (by omega)
theorem os_x2 {n : Nat} (hn : n ≤ 24) (H : ∀ ep' er' cs' : Nat → Int32, (∀ j, j < n → ep' j = ip j ∧ er' j = ir j) → (∀ p, p < 4 → cs' p = 0) → post (nI n, nI n, hz, rt, rd, rm, ip, ir, ep', er', sa, cs')) : ∀ (d i : Nat) (cs : Nat → Int32), i + d = 4 → (∀ p, p < i → cs p = 0) → wX_startSimulation_2 post (nI n) ec hz (d + 1) (nI i) rt rd rm ip ir ep er sa cs := by
  intro d
  induction d with
  | zero =>
    intro i cs hi h
    refine br_t (nI_le (a := 4) (by omega) (by omega)) ⟨n + 1, ?_⟩
    exact os_x22 hn (fun ep' er' h1 => H ep' er' cs h1 (fun p hp => h p (by omega))) n 0 ep er (by omega) (fun j hj => absurd hj (by omega))
  | succ d ih =>
    intro i cs hi h
    have hc : (nI i).toNatClampNeg = i := nI_clamp (by omega)
    refine br_f (nI_ge (b := 4) (by omega) (by decide)) ⟨vp_in_nI (by omega) (by decide), nm_e (nm_r (nI_1 i) (ih (i + 1) _ (by omega) ?_))⟩
    intro j hj
    rw [hc]
    by_cases e : j = i
    · subst e
      exact pk_us
    · rw [pk_un e]
      exact h j (by omega)
theorem os_xstart {n : Nat} (hn : n ≤ 24) (H : ∀ ep' er' cs' : Nat → Int32, (∀ j, j < n → ep' j = ip j ∧ er' j = ir j) → (∀ p, p < 4 → cs' p = 0) → post (nI n, nI n, hz, rt, rd, rm, ip, ir, ep', er', sa, cs')) : wpX_startSimulation post (nI n, ec, hz, rt, rd, rm, ip, ir, ep, er, sa, cs) := by
  unfold wpX_startSimulation
  exact ⟨5, os_x2 hn H 4 0 cs (by omega) (fun p hp => absurd hp (by omega))⟩
theorem os_x_r {e : os_E} (h : os_wf e) : e.2 < 8192 := by
  have := h.2
  omega
theorem os_xb {ev : Nat → os_E} {i m : Nat} (hm : m ≤ 96) (him : i < m) (hx : os_Xok ep er ev m) (H : ∀ e, i ≤ e → e < m → (∀ j, i ≤ j → j < m → (ev e).2 ≤ (ev j).2) → post (ic, nI m, hz, rt, rd, rm, ip, ir, upd (upd ep e (ep i)) i (ep e), upd (upd er e (er i)) i (er e), sa, cs)) : ∀ (d e k : Nat), k + d = m → i ≤ e → e < k → (∀ j, i ≤ j → j < k → (ev e).2 ≤ (ev j).2) → wX_bringEarliestTo_6 post (nI i) ic (nI m) hz rt rd rm ip ir ep er sa cs (d + 1) (nI e) (nI k) := by
  intro d
  have ci : (nI i).toNatClampNeg = i := nI_clamp (by omega)
  induction d with
  | zero =>
    intro e k hk hie hek h
    have ce : (nI e).toNatClampNeg = e := nI_clamp (by omega)
    have vi : vp_in (nI i) 96 := vp_in_nI (by omega) (by decide)
    have ve : vp_in (nI e) 96 := vp_in_nI (by omega) (by decide)
    refine br_t (nI_le (by omega) (by omega)) ?_
    rw [ce, ci]
    exact ⟨ve, nm_e ⟨ve, nm_e ⟨vi, ve, nm_e ⟨vi, ve, nm_e ⟨vi, nm_e ⟨vi, nm_e (H e hie (by omega) (fun j h1 h2 => h j h1 (by omega)))⟩⟩⟩⟩⟩⟩
  | succ d ih =>
    intro e k hk hie hek h
    have ce : (nI e).toNatClampNeg = e := nI_clamp (by omega)
    have ck : (nI k).toNatClampNeg = k := nI_clamp (by omega)
    have he := hx e (by omega)
    have hkx := hx k (by omega)
    have b1 := os_x_r he.2.2
    have b2 := os_x_r hkx.2.2
    refine br_f (nI_ge (by omega) (by omega)) ⟨vp_in_nI (by omega) (by decide), vp_in_nI (by omega) (by decide), ?_⟩
    rw [ce, ck]
    refine pk_le (ev e).2 (ev k).2 (fun z => nm_r (nI_1 k) (ih e (k + 1) (by omega) hie (by omega) ?_)) (fun z => nm_r (nI_1 k) (ih k (k + 1) (by omega) (by omega) (by omega) ?_)) he.2.1 hkx.2.1
    · intro j h1 h2
      by_cases hj : j = k
      · subst hj
        exact z
      · exact h j h1 (by omega)
    · intro j h1 h2
      by_cases hj : j = k
      · subst hj
        exact Nat.le_refl _
      · have := h j h1 (by omega)
        omega
theorem os_xbring {ev : Nat → os_E} {i m : Nat} (hm : m ≤ 96) (him : i < m) (hx : os_Xok ep er ev m) (H : ∀ e, i ≤ e → e < m → (∀ j, i ≤ j → j < m → (ev e).2 ≤ (ev j).2) → post (ic, nI m, hz, rt, rd, rm, ip, ir, upd (upd ep e (ep i)) i (ep e), upd (upd er e (er i)) i (er e), sa, cs)) : wpX_bringEarliestTo post (ic, nI m, hz, rt, rd, rm, ip, ir, ep, er, sa, cs) (nI i) := by
  unfold wpX_bringEarliestTo
  refine nm_r (nI_1 i) ⟨m - (i + 1) + 1, os_xb hm him hx H (m - (i + 1)) i (i + 1) (by omega) (by omega) (by omega) ?_⟩
  intro j h1 h2
  have e : j = i := by omega
  subst e
  exact Nat.le_refl _
theorem os_xsend {m p r : Nat} {s : Int32} (hm : m < 96) (hp : p < 4) (hr : r / 64 + 9 * (r % 4) ≤ 126) (hl : 0 < r % 4) (R : os_Rul tg dl rt rd) (H : post (ic, nI (m + 1), hz, rt, rd, rm, ip, ir, upd ep m (nI (tg p)), upd er m (nI ((r / 64 + dl p) * 64 + os_vw s * 4 + (r % 4 - 1))), sa, cs)) : wpX_send post (ic, nI m, hz, rt, rd, rm, ip, ir, ep, er, sa, cs) (nI p) (nI r) s := by
  have cm : (nI m).toNatClampNeg = m := nI_clamp (by omega)
  have cp : (nI p).toNatClampNeg = p := nI_clamp (by omega)
  have d9 := (R.1 p).2.2
  have vm : vp_in (nI m) 96 := vp_in_nI hm (by decide)
  have vp : vp_in (nI p) 4 := vp_in_nI hp (by decide)
  have w16 := (os_vw_e s).2
  obtain ⟨l, hl'⟩ : ∃ l, r % 4 = l + 1 := ⟨r % 4 - 1, by omega⟩
  unfold wpX_send
  dsimp only
  rw [cm, cp]
  refine br_t (nI_lt (b := 96) hm (by decide)) ?_
  unfold wpX_timeOf
  refine ⟨vp, nm_r (e' := nI (r / 64 + dl p)) (by rw [os_tmu (by omega), (R.2 p hp).2, nI_add]) ?_⟩
  refine nm_r (os_vw_e s).1 ?_
  unfold wpX_lifeOf
  refine nm_r (e' := nI (r % 4 - 1)) (by rw [os_lfu (by omega), hl', nI_pred]; rfl) ?_
  refine ⟨vp, vm, nm_r (congrArg (upd ep m) (R.2 p hp).1) ?_⟩
  unfold wpX_rankOf
  exact ⟨vm, nm_r (congrArg (upd er m) (os_rank (by omega) w16 (by omega))) (nm_r (nI_1 m) H)⟩
theorem os_sn_nil {mk : Nat → Int32} {e : os_E} {s : Int32} (h : ¬ (0 < e.2 % 4 ∧ s &&& mk e.1 = 0)) : os_sn tg dl mk e s = [] := if_neg h
theorem os_sn_one {mk : Nat → Int32} {e : os_E} {s : Int32} (h : 0 < e.2 % 4 ∧ s &&& mk e.1 = 0) : os_sn tg dl mk e s = [(tg e.1, (e.2 / 64 + dl e.1) * 64 + os_vw s * 4 + (e.2 % 4 - 1))] := if_pos h
theorem os_xhandle {ev : Nat → os_E} {st : Nat → Int32} {i m : Nat} {s : Int32} (hm : m ≤ 96) (him : i < m) (hx : os_Xok ep er ev m) (R : os_Rul tg dl rt rd) (hcs : ∀ p, p < 4 → cs p = st p) (hs : s = os_ns st (ev i)) (hroom : 0 < (ev i).2 % 4 → m < 96)
    (H0 : os_sn tg dl rm (ev i) s = [] → post (ic, nI m, hz, rt, rd, rm, ip, ir, ep, er, upd sa i s, upd cs (ev i).1 s))
    (H1 : ∀ x : os_E, os_sn tg dl rm (ev i) s = [x] → m < 96 → post (ic, nI (m + 1), hz, rt, rd, rm, ip, ir, upd ep m (nI x.1), upd er m (nI x.2), upd sa i s, upd cs (ev i).1 s)) : wpX_handle post (ic, nI m, hz, rt, rd, rm, ip, ir, ep, er, sa, cs) (nI i) := by
  have ci : (nI i).toNatClampNeg = i := nI_clamp (by omega)
  obtain ⟨h1, h2, h3⟩ := hx i him
  have b := os_x_r h3
  have cp : (nI (ev i).1).toNatClampNeg = (ev i).1 := nI_clamp (by have := h3.1; omega)
  have vi : vp_in (nI i) 96 := vp_in_nI (by omega) (by decide)
  have vp : vp_in (nI (ev i).1) 4 := vp_in_nI h3.1 (by decide)
  unfold wpX_handle
  dsimp only
  rw [ci]
  refine ⟨vi, nm_r h1 ⟨vi, nm_r h2 ⟨vp, ?_⟩⟩⟩
  rw [cp]
  unfold wpX_valueOf
  refine nm_r (e' := s) (by rw [os_vlu (by omega), hcs _ h3.1, hs]; rfl) ⟨vp, nm_e ⟨vi, nm_e ?_⟩⟩
  unfold wpX_lifeOf
  refine pk_le ((ev i).2 % 4) 0 (fun z => H0 (os_sn_nil (by omega))) (fun z => ⟨vp, br_c (fun y => ?_) (fun y => H0 (os_sn_nil (fun q => y q.2)))⟩) (os_lfu (by omega))
  exact os_xsend (hroom z) h3.1 h3.2 z R (H1 _ (os_sn_one ⟨z, y⟩) (hroom z))
end
