theorem os_b0 : vp_nar .boolean 0 = 0 := rfl
theorem os_b1 : vp_nar .boolean 1 = 1 := rfl
def os_Yok (ti pr va li : Nat → Int32) (ev : Nat → os_E) (m : Nat) : Prop := ∀ j, j < m → pr j = nI (ev j).1 ∧ ti j = nI ((ev j).2 / 64) ∧ va j = nI ((ev j).2 / 4 % 16) ∧ li j = nI ((ev j).2 % 4) ∧ os_wf (ev j)
theorem os_lex {a b : Nat} : (a / 64 = b / 64 → a / 4 % 16 = b / 4 % 16 → (b % 4 ≤ a % 4 ↔ ¬ a < b)) ∧ (a / 64 = b / 64 → a / 4 % 16 ≠ b / 4 % 16 → (b / 4 % 16 ≤ a / 4 % 16 ↔ ¬ a < b)) ∧ (a / 64 ≠ b / 64 → (b / 64 ≤ a / 64 ↔ ¬ a < b)) := by
  refine ⟨fun h1 h2 => ?_, fun h1 h2 => ?_, fun h1 => ?_⟩
  · omega
  · omega
  · omega
section
variable {inj hor la cnt : Int32} {tgs dls mks ti pr va li dn sts hbs : Nat → Int32} {tg dl : Nat → Nat}
theorem os_ybefore {post : Int32 → Prop} {ev : Nat → os_E} {i j m : Nat} (hm : m ≤ 96) (hi : i < m) (hj : j < m) (hy : os_Yok ti pr va li ev m) (H1 : (ev i).2 < (ev j).2 → post 1) (H0 : ¬ (ev i).2 < (ev j).2 → post 0) : wpY_before post (inj, hor, cnt, la, tgs, dls, mks, ti, pr, va, li, dn, sts, hbs) (nI i) (nI j) := by
  have ci : (nI i).toNatClampNeg = i := nI_clamp (by omega)
  have cj : (nI j).toNatClampNeg = j := nI_clamp (by omega)
  have vi : vp_in (nI i) 96 := vp_in_nI (by omega) (by decide)
  have vj : vp_in (nI j) 96 := vp_in_nI (by omega) (by decide)
  obtain ⟨_, t1, v1, l1, w1⟩ := hy i hi
  obtain ⟨_, t2, v2, l2, w2⟩ := hy j hj
  have b1 := os_x_r w1
  have b2 := os_x_r w2
  obtain ⟨x1, x2, x3⟩ := os_lex (a := (ev i).2) (b := (ev j).2)
  unfold wpY_before
  dsimp only
  rw [ci, cj]
  refine ⟨vi, vj, pk_eq ((ev i).2 / 64) ((ev j).2 / 64) (fun z => ⟨vi, vj, pk_eq ((ev i).2 / 4 % 16) ((ev j).2 / 4 % 16) (fun y => ⟨vi, vj, pk_le ((ev j).2 % 4) ((ev i).2 % 4) (fun w => H0 ((x1 z y).mp w)) (fun w => H1 ?_) l2 l1⟩) (fun y => ⟨vi, vj, pk_le ((ev j).2 / 4 % 16) ((ev i).2 / 4 % 16) (fun w => H0 ((x2 z y).mp w)) (fun w => H1 ?_) v2 v1⟩) v1 v2⟩) (fun z => ⟨vi, vj, pk_le ((ev j).2 / 64) ((ev i).2 / 64) (fun w => H0 ((x3 z).mp w)) (fun w => H1 ?_) t2 t1⟩) t1 t2⟩
  · have := x1 z y
    omega
  · have := x2 z y
    omega
  · have := x3 z
    omega
theorem os_yn {post : Int32 → Prop} {ev : Nat → os_E} {m : Nat} (hm : m ≤ 96) (hy : os_Yok ti pr va li ev m) (H0 : (∀ j, j < m → ¬ dn j = 0) → post (-1)) (H1 : ∀ b, b < m → dn b = 0 → (∀ j, j < m → dn j = 0 → (ev b).2 ≤ (ev j).2) → post (nI b)) : ∀ (d k : Nat) (x : Int32), k + d = m → ((x = -1 ∧ ∀ j, j < k → ¬ dn j = 0) ∨ ∃ b, b < k ∧ x = nI b ∧ dn b = 0 ∧ ∀ j, j < k → dn j = 0 → (ev b).2 ≤ (ev j).2) → wY_next_4 post inj hor (nI m) la tgs dls mks ti pr va li dn sts hbs (d + 1) x (nI k) := by
  intro d
  induction d with
  | zero =>
    intro k x hk h
    refine br_t (nI_le (by omega) (by omega)) ?_
    rcases h with ⟨rfl, h⟩ | ⟨b, hb, rfl, h1, h2⟩
    · exact H0 (fun j hj => h j (by omega))
    · exact H1 b (by omega) h1 (fun j hj => h2 j (by omega))
  | succ d ih =>
    intro k x hk h
    have ck : (nI k).toNatClampNeg = k := nI_clamp (by omega)
    refine br_f (nI_ge (by omega) (by omega)) ⟨vp_in_nI (by omega) (by decide), ?_⟩
    rw [ck]
    refine br_c (fun z => ?_) (fun z => nm_r (nI_1 k) (ih (k + 1) x (by omega) ?_))
    · rcases h with ⟨rfl, h⟩ | ⟨b, hb, rfl, h1, h2⟩
      · refine br_t (by decide) (nm_r (nI_1 k) (ih (k + 1) (nI k) (by omega) (Or.inr ⟨k, by omega, rfl, z, ?_⟩)))
        intro j hj hz
        by_cases q : j = k
        · subst q
          exact Nat.le_refl _
        · exact absurd hz (h j (by omega))
      · refine br_f (nI_pos (by omega)) (os_ybefore hm (by omega) (by omega) hy (fun w => br_f (by decide) (nm_r (nI_1 k) (ih (k + 1) (nI k) (by omega) (Or.inr ⟨k, by omega, rfl, z, ?_⟩)))) (fun w => br_t (by decide) (nm_r (nI_1 k) (ih (k + 1) (nI b) (by omega) (Or.inr ⟨b, by omega, rfl, h1, ?_⟩)))))
        · intro j hj hz
          by_cases q : j = k
          · subst q
            exact Nat.le_refl _
          · have := h2 j (by omega) hz
            omega
        · intro j hj hz
          by_cases q : j = k
          · subst q
            omega
          · exact h2 j (by omega) hz
    · rcases h with ⟨rfl, h⟩ | ⟨b, hb, rfl, h1, h2⟩
      · refine Or.inl ⟨rfl, fun j hj => ?_⟩
        by_cases q : j = k
        · subst q
          exact z
        · exact h j (by omega)
      · refine Or.inr ⟨b, by omega, rfl, h1, fun j hj hz => ?_⟩
        by_cases q : j = k
        · subst q
          exact absurd hz z
        · exact h2 j (by omega) hz
theorem os_ynext {post : Int32 → Prop} {ev : Nat → os_E} {m : Nat} (hm : m ≤ 96) (hy : os_Yok ti pr va li ev m) (H0 : (∀ j, j < m → ¬ dn j = 0) → post (-1)) (H1 : ∀ b, b < m → dn b = 0 → (∀ j, j < m → dn j = 0 → (ev b).2 ≤ (ev j).2) → post (nI b)) : wpY_next post (inj, hor, nI m, la, tgs, dls, mks, ti, pr, va, li, dn, sts, hbs) := by
  unfold wpY_next
  exact ⟨m + 1, os_yn hm hy H0 H1 m 0 (-1) (by omega) (Or.inl ⟨rfl, fun j hj => absurd hj (by omega)⟩)⟩
theorem os_yput {post : SY → Prop} {m : Nat} {p t v l : Int32} (hm : m < 96) (H : post (inj, hor, nI (m + 1), la, tgs, dls, mks, upd ti m t, upd pr m p, upd va m v, upd li m l, upd dn m 0, sts, hbs)) : wpY_put post (inj, hor, nI m, la, tgs, dls, mks, ti, pr, va, li, dn, sts, hbs) p t v l := by
  have cm : (nI m).toNatClampNeg = m := nI_clamp (by omega)
  have vm : vp_in (nI m) 96 := vp_in_nI hm (by decide)
  unfold wpY_put
  dsimp only
  rw [cm, os_b0]
  exact br_f (nI_ge (b := 96) hm (by decide)) ⟨vm, nm_e ⟨vm, nm_e ⟨vm, nm_e ⟨vm, nm_e ⟨vm, nm_e (nm_r (nI_1 m) H)⟩⟩⟩⟩⟩
theorem os_yhandle {post : SY → Prop} {ev : Nat → os_E} {st hb : Nat → Int32} {i m : Nat} {s : Int32} (hm : m ≤ 96) (him : i < m) (hy : os_Yok ti pr va li ev m) (R : os_Rul tg dl tgs dls) (hst : ∀ p, p < 4 → sts p = st p ∧ hbs p = hb p) (hs : s = os_ns st (ev i)) (hroom : 0 < (ev i).2 % 4 → m < 96)
    (H0 : os_sn tg dl mks (ev i) s = [] → post (inj, hor, nI m, nI ((ev i).2 / 64), tgs, dls, mks, ti, pr, va, li, upd dn i 1, upd sts (ev i).1 s, upd hbs (ev i).1 (hb (ev i).1 + 1)))
    (H1 : ∀ x : os_E, os_sn tg dl mks (ev i) s = [x] → m < 96 → post (inj, hor, nI (m + 1), nI ((ev i).2 / 64), tgs, dls, mks, upd ti m (nI (x.2 / 64)), upd pr m (nI x.1), upd va m (nI (x.2 / 4 % 16)), upd li m (nI (x.2 % 4)), upd (upd dn i 1) m 0, upd sts (ev i).1 s, upd hbs (ev i).1 (hb (ev i).1 + 1))) : wpY_handle post (inj, hor, nI m, la, tgs, dls, mks, ti, pr, va, li, dn, sts, hbs) (nI i) := by
  have ci : (nI i).toNatClampNeg = i := nI_clamp (by omega)
  obtain ⟨h1, h2, h3, h4, h5⟩ := hy i him
  have b := os_x_r h5
  have cp : (nI (ev i).1).toNatClampNeg = (ev i).1 := nI_clamp (by have := h5.1; omega)
  have vi : vp_in (nI i) 96 := vp_in_nI (by omega) (by decide)
  have vp : vp_in (nI (ev i).1) 4 := vp_in_nI h5.1 (by decide)
  unfold wpY_handle
  dsimp only
  rw [ci, os_b1]
  refine ⟨vi, nm_r h1 ⟨vi, nm_e ⟨vp, ?_⟩⟩⟩
  rw [cp]
  refine ⟨vi, vp, nm_r (e' := upd sts (ev i).1 s) (by rw [h3, (hst _ h5.1).1, hs]; rfl) ⟨vp, vp, nm_r (e' := upd hbs (ev i).1 (hb (ev i).1 + 1)) (by rw [(hst _ h5.1).2]) ⟨vi, nm_r h2 ⟨vi, ?_⟩⟩⟩⟩
  rw [pk_us]
  refine pk_le ((ev i).2 % 4) 0 (fun z => H0 (os_sn_nil (by omega))) (fun z => ⟨vp, vp, br_c (fun y => ⟨vp, vi, vp, vp, vi, ?_⟩) (fun y => H0 (os_sn_nil (fun q => y q.2)))⟩) h4
  obtain ⟨l, hl⟩ : ∃ l, (ev i).2 % 4 = l + 1 := ⟨(ev i).2 % 4 - 1, by omega⟩
  have d9 := (R.1 (ev i).1).2.2
  have w16 := (os_vw_e s).2
  have K := H1 _ (os_sn_one ⟨z, y⟩) (hroom z)
  dsimp only at K
  have k1 : (((ev i).2 / 64 + dl (ev i).1) * 64 + os_vw s * 4 + ((ev i).2 % 4 - 1)) / 64 = (ev i).2 / 64 + dl (ev i).1 := by omega
  have k2 : (((ev i).2 / 64 + dl (ev i).1) * 64 + os_vw s * 4 + ((ev i).2 % 4 - 1)) / 4 % 16 = os_vw s := by omega
  have k3 : (((ev i).2 / 64 + dl (ev i).1) * 64 + os_vw s * 4 + ((ev i).2 % 4 - 1)) % 4 = l := by omega
  rw [k1, k2, k3] at K
  rw [(R.2 _ h5.1).1, h2, (R.2 _ h5.1).2, nI_add, (os_vw_e s).1, h4, hl, nI_pred]
  exact os_yput (hroom z) K
end
