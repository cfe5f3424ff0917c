/-- an event: its process, and its rank (time * 64 + value * 4 + life) -/
abbrev os_E : Type := Nat × Nat
/-- what a running simulation shows: the states, how many each has handled, the last time -/
abbrev os_C : Type := (Nat → Int32) × (Nat → Int32) × Int32
def os_vw (s : Int32) : Nat := ((s >>> ((2 : Int32) &&& 31)) &&& 15).toNatClampNeg
def os_ns (st : Nat → Int32) (e : os_E) : Int32 := ((st e.1 * 5) + nI (e.2 / 4 % 16)) + 1
def os_sn (tg dl : Nat → Nat) (mk : Nat → Int32) (e : os_E) (s : Int32) : List os_E :=
  if 0 < e.2 % 4 ∧ s &&& mk e.1 = 0 then [(tg e.1, (e.2 / 64 + dl e.1) * 64 + os_vw s * 4 + (e.2 % 4 - 1))] else []
def os_up (c : os_C) (e : os_E) : os_C := (upd c.1 e.1 (os_ns c.1 e), upd c.2.1 e.1 (c.2.1 e.1 + 1), nI (e.2 / 64))
def os_c0 : os_C := (fun _ => 0, fun _ => 0, -1)
/-- from the pending events L and what is shown, c, n events with times below T are handled, and then none is left: o is shown -/
def os_Res (tg dl : Nat → Nat) (mk : Nat → Int32) (T : Nat) : Nat → List os_E → os_C → os_C → Prop
  | 0, L, c, o => (∀ x, x ∈ L → T ≤ x.2 / 64) ∧ o = c
  | n + 1, L, c, o => ∃ (e : os_E) (L' : List os_E), L.Perm (e :: L') ∧ (∀ x, x ∈ L → e.2 ≤ x.2) ∧ e.2 / 64 < T ∧ os_Res tg dl mk T n (os_sn tg dl mk e (os_ns c.1 e) ++ L') (os_up c e) o
theorem os_Res_0 {tg dl : Nat → Nat} {mk : Nat → Int32} {T : Nat} {L : List os_E} {c o : os_C} : os_Res tg dl mk T 0 L c o ↔ (∀ x, x ∈ L → T ≤ x.2 / 64) ∧ o = c := Iff.rfl
theorem os_Res_s {tg dl : Nat → Nat} {mk : Nat → Int32} {T n : Nat} {L : List os_E} {c o : os_C} : os_Res tg dl mk T (n + 1) L c o ↔ ∃ (e : os_E) (L' : List os_E), L.Perm (e :: L') ∧ (∀ x, x ∈ L → e.2 ≤ x.2) ∧ e.2 / 64 < T ∧ os_Res tg dl mk T n (os_sn tg dl mk e (os_ns c.1 e) ++ L') (os_up c e) o := Iff.rfl
theorem os_Res_perm {tg dl : Nat → Nat} {mk : Nat → Int32} {T n : Nat} {L M : List os_E} {c o : os_C} (h : L.Perm M) (r : os_Res tg dl mk T n L c o) : os_Res tg dl mk T n M c o := by
  cases n with
  | zero =>
    obtain ⟨h1, h2⟩ := os_Res_0.mp r
    exact os_Res_0.mpr ⟨fun x hx => h1 x (h.mem_iff.mpr hx), h2⟩
  | succ n =>
    obtain ⟨e, L', hp, hm, ht, hr⟩ := os_Res_s.mp r
    exact os_Res_s.mpr ⟨e, L', h.symm.trans hp, fun x hx => hm x (h.mem_iff.mpr hx), ht, hr⟩
theorem os_sn_mem {tg dl : Nat → Nat} {mk : Nat → Int32} (hd : ∀ p, 1 ≤ dl p) {e x : os_E} {s : Int32} (h : x ∈ os_sn tg dl mk e s) : e.2 / 64 < x.2 / 64 := by
  unfold os_sn at h
  split at h
  · rw [List.mem_singleton] at h
    subst h
    have := hd e.1
    dsimp only
    omega
  · exact absurd h (List.not_mem_nil)
theorem os_dia {tg dl : Nat → Nat} {mk : Nat → Int32} {T : Nat} (hd : ∀ p, 1 ≤ dl p) : ∀ (n : Nat) (L : List os_E) (c o : os_C) (e : os_E) (L' : List os_E), L.Perm (e :: L') → (∀ x, x ∈ L → e.2 ≤ x.2) → e.2 / 64 < T → os_Res tg dl mk T n L c o → ∃ n', n = n' + 1 ∧ os_Res tg dl mk T n' (os_sn tg dl mk e (os_ns c.1 e) ++ L') (os_up c e) o := by
  intro n
  induction n with
  | zero =>
    intro L c o e L' hp hm ht r
    have := (os_Res_0.mp r).1 e (hp.mem_iff.mpr List.mem_cons_self)
    omega
  | succ n ih =>
    intro L c o e L' hp hm ht r
    obtain ⟨f, M', hq, hn, hu, hr⟩ := os_Res_s.mp r
    refine ⟨n, rfl, ?_⟩
    by_cases hef : e = f
    · subst hef
      exact os_Res_perm ((hp.symm.trans hq).cons_inv.symm.append_left _) hr
    · have hr2 : e.2 = f.2 := by
        have a := hm f (hq.mem_iff.mpr List.mem_cons_self)
        have b := hn e (hp.mem_iff.mpr List.mem_cons_self)
        omega
      have hp1 : e.1 ≠ f.1 := fun h => hef (Prod.ext h hr2)
      have hf : f ∈ L' := by
        have a : f ∈ e :: L' := hp.mem_iff.mp (hq.mem_iff.mpr List.mem_cons_self)
        rcases List.mem_cons.mp a with h | h
        · exact absurd h.symm hef
        · exact h
      obtain ⟨s, t, rfl⟩ := List.append_of_mem hf
      have h1 : M'.Perm (e :: (s ++ t)) := by
        have a : (f :: M').Perm (f :: e :: (s ++ t)) := hq.symm.trans (hp.trans ((List.perm_middle.cons e).trans (List.Perm.swap ..)))
        exact a.cons_inv
      have hse : os_ns (os_up c f).1 e = os_ns c.1 e := by
        unfold os_ns os_up
        dsimp only
        rw [pk_un hp1]
      have hsf : os_ns (os_up c e).1 f = os_ns c.1 f := by
        unfold os_ns os_up
        dsimp only
        rw [pk_un (Ne.symm hp1)]
      have hcm : ∀ (a : Nat → Int32) (x y : Int32), upd (upd a f.1 x) e.1 y = upd (upd a e.1 y) f.1 x := by
        intro a x y
        funext j
        unfold upd
        by_cases j1 : j = e.1
        · by_cases j2 : j = f.1
          · exact absurd (j1.symm.trans j2) hp1
          · rw [if_pos j1, if_neg j2, if_pos j1]
        · rw [if_neg j1]
          by_cases j2 : j = f.1
          · rw [if_pos j2, if_pos j2]
          · rw [if_neg j2, if_neg j2, if_neg j1]
      have hc : os_up (os_up c f) e = os_up (os_up c e) f := by
        have k1 : os_up (os_up c f) e = (upd (upd c.1 f.1 (os_ns c.1 f)) e.1 (os_ns c.1 e), upd (upd c.2.1 f.1 (c.2.1 f.1 + 1)) e.1 (c.2.1 e.1 + 1), nI (e.2 / 64)) := by
          rw [← hse]
          unfold os_up
          dsimp only
          rw [pk_un hp1]
        have k2 : os_up (os_up c e) f = (upd (upd c.1 e.1 (os_ns c.1 e)) f.1 (os_ns c.1 f), upd (upd c.2.1 e.1 (c.2.1 e.1 + 1)) f.1 (c.2.1 f.1 + 1), nI (f.2 / 64)) := by
          rw [← hsf]
          unfold os_up
          dsimp only
          rw [pk_un (Ne.symm hp1)]
        rw [k1, k2, hcm, hcm, hr2]
      have hin : ∀ (z : os_E) (w : Int32) (K : List os_E), z.2 = e.2 → (∀ x, x ∈ K → x ∈ L) → ∀ x, x ∈ os_sn tg dl mk z w ++ K → e.2 ≤ x.2 := by
        intro z w K hz hK x hx
        rcases List.mem_append.mp hx with h | h
        · have := os_sn_mem hd h
          omega
        · exact hm x (hK x h)
      obtain ⟨n', rfl, hz⟩ := ih (os_sn tg dl mk f (os_ns c.1 f) ++ M') (os_up c f) o e (os_sn tg dl mk f (os_ns c.1 f) ++ (s ++ t)) ((h1.append_left _).trans List.perm_middle) (hin f _ M' hr2.symm (fun x hx => hq.mem_iff.mpr (List.mem_cons_of_mem _ hx))) ht hr
      refine os_Res_s.mpr ⟨f, os_sn tg dl mk e (os_ns c.1 e) ++ (s ++ t), (List.perm_middle.append_left _).trans List.perm_middle, ?_, hu, ?_⟩
      · intro x hx
        rw [← hr2]
        exact hin e _ _ rfl (fun x hx => hp.mem_iff.mpr (List.mem_cons_of_mem _ hx)) x hx
      · rw [hsf, ← hc]
        rw [hse] at hz
        refine os_Res_perm ?_ hz
        exact List.perm_append_comm_assoc _ _ _
theorem os_uni {tg dl : Nat → Nat} {mk : Nat → Int32} {T : Nat} (hd : ∀ p, 1 ≤ dl p) : ∀ (n m : Nat) (L : List os_E) (c o o' : os_C), os_Res tg dl mk T n L c o → os_Res tg dl mk T m L c o' → o = o' := by
  intro n
  induction n with
  | zero =>
    intro m L c o o' r r'
    obtain ⟨h1, h2⟩ := os_Res_0.mp r
    cases m with
    | zero => exact h2.trans (os_Res_0.mp r').2.symm
    | succ m =>
      obtain ⟨e, L', hp, hm, ht, hr⟩ := os_Res_s.mp r'
      have := h1 e (hp.mem_iff.mpr List.mem_cons_self)
      omega
  | succ n ih =>
    intro m L c o o' r r'
    obtain ⟨e, L', hp, hm, ht, hr⟩ := os_Res_s.mp r
    obtain ⟨m', rfl, hz⟩ := os_dia hd m L c o' e L' hp hm ht r'
    exact ih _ _ _ _ _ hr hz
/-- the events ev j, j < m, that are pending -/
def os_pd (ev : Nat → os_E) (ac : Nat → Bool) : Nat → List os_E
  | 0 => []
  | m + 1 => if ac m = true then ev m :: os_pd ev ac m else os_pd ev ac m
theorem os_pd_mem {ev : Nat → os_E} {ac : Nat → Bool} {x : os_E} : ∀ {m : Nat}, x ∈ os_pd ev ac m ↔ ∃ j, j < m ∧ ac j = true ∧ x = ev j := by
  intro m
  induction m with
  | zero =>
    refine ⟨fun h => absurd h List.not_mem_nil, fun ⟨j, h, _⟩ => absurd h (by omega)⟩
  | succ m ih =>
    unfold os_pd
    by_cases h : ac m = true
    · rw [if_pos h, List.mem_cons, ih]
      constructor
      · rintro (e | ⟨j, h1, h2, h3⟩)
        · exact ⟨m, by omega, h, e⟩
        · exact ⟨j, by omega, h2, h3⟩
      · rintro ⟨j, h1, h2, h3⟩
        by_cases hj : j = m
        · subst hj
          exact Or.inl h3
        · exact Or.inr ⟨j, by omega, h2, h3⟩
    · rw [if_neg h, ih]
      constructor
      · rintro ⟨j, h1, h2, h3⟩
        exact ⟨j, by omega, h2, h3⟩
      · rintro ⟨j, h1, h2, h3⟩
        by_cases hj : j = m
        · subst hj
          exact absurd h2 h
        · exact ⟨j, by omega, h2, h3⟩
theorem os_pd_congr {ev fv : Nat → os_E} {ac bc : Nat → Bool} : ∀ {m : Nat}, (∀ j, j < m → ac j = bc j) → (∀ j, j < m → ac j = true → ev j = fv j) → os_pd ev ac m = os_pd fv bc m := by
  intro m
  induction m with
  | zero => intro _ _; rfl
  | succ m ih =>
    intro h1 h2
    have e := ih (fun j hj => h1 j (by omega)) (fun j hj => h2 j (by omega))
    unfold os_pd
    rw [← h1 m (by omega), e]
    by_cases h : ac m = true
    · rw [if_pos h, if_pos h, h2 m (by omega) h]
    · rw [if_neg h, if_neg h]
def os_rm (ac : Nat → Bool) (k : Nat) : Nat → Bool := fun j => if j = k then false else ac j
theorem os_rm_s {ac : Nat → Bool} {k : Nat} : os_rm ac k k = false := if_pos rfl
theorem os_rm_n {ac : Nat → Bool} {k j : Nat} (h : j ≠ k) : os_rm ac k j = ac j := if_neg h
theorem os_pd_rm {ev : Nat → os_E} {ac : Nat → Bool} : ∀ {m : Nat} (j : Nat), j < m → ac j = true → (os_pd ev ac m).Perm (ev j :: os_pd ev (os_rm ac j) m) := by
  intro m
  induction m with
  | zero => intro j h; omega
  | succ m ih =>
    intro j hj ha
    by_cases e : j = m
    · subst e
      unfold os_pd
      rw [if_pos ha, os_rm_s, if_neg (by decide)]
      rw [os_pd_congr (ev := ev) (fv := ev) (ac := ac) (bc := os_rm ac j) (m := j) (fun i hi => (os_rm_n (by omega)).symm) (fun _ _ _ => rfl)]
    · have h := ih j (by omega) ha
      unfold os_pd
      rw [os_rm_n (ac := ac) (k := j) (j := m) (by omega)]
      by_cases hm : ac m = true
      · rw [if_pos hm, if_pos hm]
        exact (h.cons _).trans (List.Perm.swap ..)
      · rw [if_neg hm, if_neg hm]
        exact h
/-- the weight: how many events may still come of it -/
def os_wt : List os_E → Nat
  | [] => 0
  | e :: L => e.2 % 4 + 1 + os_wt L
theorem os_wt_perm {L M : List os_E} (h : L.Perm M) : os_wt L = os_wt M := by
  induction h with
  | nil => rfl
  | cons x _ ih => unfold os_wt; omega
  | swap x y l => simp only [os_wt]; omega
  | trans _ _ ih1 ih2 => omega
theorem os_wt_app {L M : List os_E} : os_wt (L ++ M) = os_wt L + os_wt M := by
  induction L with
  | nil => simp [os_wt]
  | cons x L ih => simp only [List.cons_append, os_wt, ih]; omega
theorem os_wt_ge {L : List os_E} : L.length ≤ os_wt L := by
  induction L with
  | nil => simp [os_wt]
  | cons x L ih => simp only [List.length_cons, os_wt]; omega
theorem os_wt_le {L : List os_E} : os_wt L ≤ 4 * L.length := by
  induction L with
  | nil => simp [os_wt]
  | cons x L ih => simp only [List.length_cons, os_wt]; omega
theorem os_wt_sn {tg dl : Nat → Nat} {mk : Nat → Int32} {e : os_E} {s : Int32} : os_wt (os_sn tg dl mk e s) ≤ e.2 % 4 := by
  unfold os_sn
  split
  · simp only [os_wt]
    omega
  · simp only [os_wt]
    omega
def os_wf (e : os_E) : Prop := e.1 < 4 ∧ e.2 / 64 + 9 * (e.2 % 4) ≤ 126
theorem os_vw_e (s : Int32) : (s >>> ((2 : Int32) &&& 31)) &&& 15 = nI (os_vw s) ∧ os_vw s < 16 := by
  obtain ⟨j, hj, e⟩ := pk_andE (s >>> ((2 : Int32) &&& 31)) (m := 15) 4 (by decide)
  unfold os_vw
  rw [e, nI_clamp (by omega)]
  exact ⟨rfl, by omega⟩
theorem os_sn_wf {tg dl : Nat → Nat} {mk : Nat → Int32} (ht : ∀ p, tg p < 4) (hd : ∀ p, dl p ≤ 9) {e x : os_E} {s : Int32} (he : os_wf e) (h : x ∈ os_sn tg dl mk e s) : os_wf x := by
  unfold os_sn at h
  split at h
  case isTrue hc =>
    rw [List.mem_singleton] at h
    subst h
    have h1 := hd e.1
    have h2 := (os_vw_e s).2
    have h3 := he.2
    refine ⟨ht _, ?_⟩
    dsimp only
    have k1 : ((e.2 / 64 + dl e.1) * 64 + os_vw s * 4 + (e.2 % 4 - 1)) / 64 = e.2 / 64 + dl e.1 := by omega
    have k2 : ((e.2 / 64 + dl e.1) * 64 + os_vw s * 4 + (e.2 % 4 - 1)) % 4 = e.2 % 4 - 1 := by omega
    rw [k1, k2]
    omega
  case isFalse => exact absurd h (List.not_mem_nil)
/-- the first i of the events ev, with the states sa behind them, are a run from L0: L is pending then, st are the states -/
def os_Pre (tg dl : Nat → Nat) (mk : Nat → Int32) (L0 : List os_E) (ev : Nat → os_E) (sa : Nat → Int32) : Nat → List os_E → (Nat → Int32) → Prop
  | 0, L, st => L.Perm L0 ∧ st = fun _ => 0
  | i + 1, L, st => ∃ (Lp : List os_E) (sp : Nat → Int32) (L' : List os_E), os_Pre tg dl mk L0 ev sa i Lp sp ∧ Lp.Perm (ev i :: L') ∧ (∀ x, x ∈ Lp → (ev i).2 ≤ x.2) ∧ sa i = os_ns sp (ev i) ∧ L.Perm (os_sn tg dl mk (ev i) (sa i) ++ L') ∧ st = upd sp (ev i).1 (sa i)
theorem os_Pre_0 {tg dl : Nat → Nat} {mk : Nat → Int32} {L0 : List os_E} {ev : Nat → os_E} {sa : Nat → Int32} {L : List os_E} {st : Nat → Int32} : os_Pre tg dl mk L0 ev sa 0 L st ↔ L.Perm L0 ∧ st = fun _ => 0 := Iff.rfl
theorem os_Pre_s {tg dl : Nat → Nat} {mk : Nat → Int32} {L0 : List os_E} {ev : Nat → os_E} {sa : Nat → Int32} {i : Nat} {L : List os_E} {st : Nat → Int32} : os_Pre tg dl mk L0 ev sa (i + 1) L st ↔ ∃ (Lp : List os_E) (sp : Nat → Int32) (L' : List os_E), os_Pre tg dl mk L0 ev sa i Lp sp ∧ Lp.Perm (ev i :: L') ∧ (∀ x, x ∈ Lp → (ev i).2 ≤ x.2) ∧ sa i = os_ns sp (ev i) ∧ L.Perm (os_sn tg dl mk (ev i) (sa i) ++ L') ∧ st = upd sp (ev i).1 (sa i) := Iff.rfl
theorem os_Pre_congr {tg dl : Nat → Nat} {mk : Nat → Int32} {L0 : List os_E} {ev fv : Nat → os_E} {sa sb : Nat → Int32} : ∀ (i : Nat) (L : List os_E) (st : Nat → Int32), (∀ j, j < i → ev j = fv j ∧ sa j = sb j) → os_Pre tg dl mk L0 ev sa i L st → os_Pre tg dl mk L0 fv sb i L st := by
  intro i
  induction i with
  | zero => intro L st _ h; exact h
  | succ i ih =>
    intro L st hj h
    obtain ⟨Lp, sp, L', h1, h2, h3, h4, h5, h6⟩ := os_Pre_s.mp h
    obtain ⟨e1, e2⟩ := hj i (by omega)
    rw [e1] at h2 h3 h4 h5 h6
    rw [e2] at h4 h5 h6
    exact os_Pre_s.mpr ⟨Lp, sp, L', ih Lp sp (fun j hi => hj j (by omega)) h1, h2, h3, h4, h5, h6⟩
theorem os_Pre_perm {tg dl : Nat → Nat} {mk : Nat → Int32} {L0 : List os_E} {ev : Nat → os_E} {sa : Nat → Int32} {i : Nat} {L M : List os_E} {st : Nat → Int32} (h : M.Perm L) (r : os_Pre tg dl mk L0 ev sa i L st) : os_Pre tg dl mk L0 ev sa i M st := by
  cases i with
  | zero => exact ⟨h.trans r.1, r.2⟩
  | succ i =>
    obtain ⟨Lp, sp, L', h1, h2, h3, h4, h5, h6⟩ := os_Pre_s.mp r
    exact os_Pre_s.mpr ⟨Lp, sp, L', h1, h2, h3, h4, h.trans h5, h6⟩
/-- what the events of the run with times below T show -/
def os_Fi (T : Nat) (ev : Nat → os_E) (sa : Nat → Int32) : Nat → os_C
  | 0 => os_c0
  | i + 1 => if (ev i).2 / 64 < T then (upd (os_Fi T ev sa i).1 (ev i).1 (sa i), upd (os_Fi T ev sa i).2.1 (ev i).1 ((os_Fi T ev sa i).2.1 (ev i).1 + 1), nI ((ev i).2 / 64)) else os_Fi T ev sa i
theorem os_Fi_t {T : Nat} {ev : Nat → os_E} {sa : Nat → Int32} {i : Nat} (h : (ev i).2 / 64 < T) : os_Fi T ev sa (i + 1) = (upd (os_Fi T ev sa i).1 (ev i).1 (sa i), upd (os_Fi T ev sa i).2.1 (ev i).1 ((os_Fi T ev sa i).2.1 (ev i).1 + 1), nI ((ev i).2 / 64)) := if_pos h
theorem os_Fi_f {T : Nat} {ev : Nat → os_E} {sa : Nat → Int32} {i : Nat} (h : ¬ (ev i).2 / 64 < T) : os_Fi T ev sa (i + 1) = os_Fi T ev sa i := if_neg h
theorem os_run {tg dl : Nat → Nat} {mk : Nat → Int32} {L0 : List os_E} {ev : Nat → os_E} {sa : Nat → Int32} {T : Nat} (hd : ∀ p, 1 ≤ dl p) : ∀ (i : Nat) (L : List os_E) (st : Nat → Int32), os_Pre tg dl mk L0 ev sa i L st →
    ((os_Fi T ev sa i).1 = st ∧ ∀ n o, os_Res tg dl mk T n L (os_Fi T ev sa i) o → os_Res tg dl mk T (n + i) L0 os_c0 o) ∨ ((∀ x, x ∈ L → T ≤ x.2 / 64) ∧ ∃ n, os_Res tg dl mk T n L0 os_c0 (os_Fi T ev sa i)) := by
  intro i
  induction i with
  | zero =>
    intro L st h
    obtain ⟨h1, h2⟩ := os_Pre_0.mp h
    exact Or.inl ⟨h2.symm, fun n o r => os_Res_perm h1 r⟩
  | succ i ih =>
    intro L st h
    obtain ⟨Lp, sp, L', h1, h2, h3, h4, h5, h6⟩ := os_Pre_s.mp h
    have hev : ev i ∈ Lp := h2.mem_iff.mpr List.mem_cons_self
    have hall : ¬ (ev i).2 / 64 < T → ∀ x, x ∈ L → T ≤ x.2 / 64 := by
      intro hT x hx
      rcases List.mem_append.mp (h5.mem_iff.mp hx) with hs | hl
      · have := os_sn_mem hd hs
        omega
      · have := h3 x (h2.mem_iff.mpr (List.mem_cons_of_mem _ hl))
        omega
    rcases ih Lp sp h1 with ⟨a, b⟩ | ⟨a, n, b⟩
    · by_cases hT : (ev i).2 / 64 < T
      · refine Or.inl ⟨?_, fun n o r => ?_⟩
        · rw [os_Fi_t hT, h6, a]
        · have e : n + (i + 1) = (n + 1) + i := by omega
          rw [e]
          refine b (n + 1) o (os_Res_s.mpr ⟨ev i, L', h2, h3, hT, ?_⟩)
          have e1 : os_ns (os_Fi T ev sa i).1 (ev i) = sa i := by rw [a, h4]
          have e2 : os_up (os_Fi T ev sa i) (ev i) = os_Fi T ev sa (i + 1) := by
            rw [os_Fi_t hT]
            unfold os_up
            rw [e1]
          rw [e1, e2]
          exact os_Res_perm h5 r
      · refine Or.inr ⟨hall hT, 0 + i, ?_⟩
        rw [os_Fi_f hT]
        refine b 0 _ (os_Res_0.mpr ⟨fun x hx => ?_, rfl⟩)
        have := h3 x hx
        omega
    · have hT : ¬ (ev i).2 / 64 < T := by
        have := a _ hev
        omega
      refine Or.inr ⟨hall hT, n, ?_⟩
      rw [os_Fi_f hT]
      exact b
theorem os_agree {tg dl : Nat → Nat} {mk : Nat → Int32} {L0 : List os_E} {ev : Nat → os_E} {sa : Nat → Int32} {T : Nat} (hd : ∀ p, 1 ≤ dl p) {m n : Nat} {st : Nat → Int32} {o : os_C} (h : os_Pre tg dl mk L0 ev sa m [] st) (r : os_Res tg dl mk T n L0 os_c0 o) : o = os_Fi T ev sa m := by
  rcases os_run (T := T) hd m [] st h with ⟨_, b⟩ | ⟨_, k, b⟩
  · exact os_uni hd _ _ _ _ _ _ r (b 0 _ (os_Res_0.mpr ⟨fun x hx => absurd hx List.not_mem_nil, rfl⟩))
  · exact os_uni hd _ _ _ _ _ _ r b
def os_sum (c : os_C) : Int32 := ((c.2.1 0 + c.2.1 1) + c.2.1 2) + c.2.1 3
theorem os_sum_up {h : Nat → Int32} {p : Nat} (hp : p < 4) : ((upd h p (h p + 1) 0 + upd h p (h p + 1) 1) + upd h p (h p + 1) 2) + upd h p (h p + 1) 3 = (((h 0 + h 1) + h 2) + h 3) + 1 := by
  have c : p = 0 ∨ p = 1 ∨ p = 2 ∨ p = 3 := by omega
  rcases c with rfl | rfl | rfl | rfl
  · rw [pk_us, pk_un (by decide), pk_un (by decide), pk_un (by decide)]; grind
  · rw [pk_us, pk_un (by decide), pk_un (by decide), pk_un (by decide)]; grind
  · rw [pk_us, pk_un (by decide), pk_un (by decide), pk_un (by decide)]; grind
  · rw [pk_us, pk_un (by decide), pk_un (by decide), pk_un (by decide)]; grind
theorem os_sum_t {T : Nat} {ev : Nat → os_E} {sa : Nat → Int32} {i : Nat} (h : (ev i).2 / 64 < T) (hp : (ev i).1 < 4) : os_sum (os_Fi T ev sa (i + 1)) = os_sum (os_Fi T ev sa i) + 1 := by
  rw [os_Fi_t h]
  exact os_sum_up hp
theorem os_sum_all {T : Nat} {ev : Nat → os_E} {sa : Nat → Int32} : ∀ {m : Nat}, (∀ j, j < m → (ev j).2 / 64 < T ∧ (ev j).1 < 4) → os_sum (os_Fi T ev sa m) = nI m := by
  intro m
  induction m with
  | zero => intro _; exact (by decide : (((0 : Int32) + 0) + 0) + 0 = nI 0)
  | succ m ih =>
    intro h
    rw [os_sum_t (h m (by omega)).1 (h m (by omega)).2, ih (fun j hj => h j (by omega)), nI_1]
