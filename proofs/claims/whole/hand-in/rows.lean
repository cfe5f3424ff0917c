section
theorem pk_us {f : Nat → Int32} {k : Nat} {x : Int32} : upd f k x k = x := if_pos rfl
theorem pk_un {f : Nat → Int32} {k j : Nat} {x : Int32} (h : j ≠ k) : upd f k x j = f j := if_neg h
theorem pk_sub {a b : Nat} (h : b ≤ a) : nI a - nI b = nI (a - b) := by
  obtain ⟨c, rfl⟩ : ∃ c, a = c + b := ⟨a - b, by omega⟩
  rw [← nI_add, Int32.add_sub_cancel, Nat.add_sub_cancel]
theorem pk_le {x y : Int32} {A B : Prop} (a b : Nat) (f : a ≤ b → A) (g : b < a → B) (hx : x = nI a := by rfl) (hy : y = nI b := by rfl) (ha : a < 2 ^ 31 := by omega) (hb : b < 2 ^ 31 := by omega) : (x ≤ y → A) ∧ (¬ x ≤ y → B) := by
  subst hx hy
  rw [nI_leI ha hb]
  exact ⟨f, fun z => g (by omega)⟩
theorem pk_lt {x y : Int32} {A B : Prop} (a b : Nat) (f : a < b → A) (g : b ≤ a → B) (hx : x = nI a := by rfl) (hy : y = nI b := by rfl) (ha : a < 2 ^ 31 := by omega) (hb : b < 2 ^ 31 := by omega) : (x < y → A) ∧ (¬ x < y → B) := by
  subst hx hy
  rw [nI_ltI ha hb]
  exact ⟨f, fun z => g (by omega)⟩
theorem pk_eq {x y : Int32} {A B : Prop} (a b : Nat) (f : a = b → A) (g : a ≠ b → B) (hx : x = nI a := by rfl) (hy : y = nI b := by rfl) (ha : a < 2 ^ 31 := by omega) (hb : b < 2 ^ 31 := by omega) : (x = y → A) ∧ (¬ x = y → B) := by
  subst hx hy
  rw [nI_eq ha hb]
  exact ⟨f, g⟩
theorem pk_in {x : Int32} (n N : Nat) (h : n < N) (hx : x = nI n := by rfl) (hN : N < 2 ^ 31 := by omega) : vp_in x N := by
  subst hx
  exact vp_in_nI h hN
theorem pk_cl {x : Int32} (n : Nat) (hx : x = nI n := by rfl) (h : n < 2 ^ 31 := by omega) : x.toNatClampNeg = n := by
  subst hx
  exact nI_clamp h
theorem pk_tn {n : Nat} (h : n < 2 ^ 32) : (nI n).toBitVec.toNat = n := Nat.mod_eq_of_lt h
theorem pk_and (x : Int32) {m : Int32} (k : Nat) (hm : m.toBitVec.toNat = 2 ^ k - 1) : x &&& m = nI (x.toBitVec.toNat % 2 ^ k) := by
  apply Int32.toBitVec_inj.mp
  apply BitVec.eq_of_toNat_eq
  rw [Int32.toBitVec_and, BitVec.toNat_and, hm, Nat.and_two_pow_sub_one_eq_mod]
  show _ = (BitVec.ofNat 32 _).toNat
  rw [BitVec.toNat_ofNat]
  exact (Nat.mod_eq_of_lt (Nat.lt_of_le_of_lt (Nat.mod_le _ _) x.toBitVec.isLt)).symm
theorem pk_andN {n : Nat} (h : n < 2 ^ 32) {m : Int32} (k : Nat) (hm : m.toBitVec.toNat = 2 ^ k - 1) : nI n &&& m = nI (n % 2 ^ k) := by
  rw [pk_and _ k hm, pk_tn h]
theorem pk_andE (x : Int32) {m : Int32} (k : Nat) (hm : m.toBitVec.toNat = 2 ^ k - 1) : ∃ j : Nat, j < 2 ^ k ∧ x &&& m = nI j := ⟨_, Nat.mod_lt _ (Nat.two_pow_pos k), pk_and x k hm⟩
theorem pk_shl (a s : Int32) (k : Nat) (hs : (s.toBitVec.smod 32).toNat = k) : (a <<< s).toBitVec.toNat = a.toBitVec.toNat * 2 ^ k % 2 ^ 32 := by
  show (a.toBitVec <<< (s.toBitVec.smod 32).toNat).toNat = _
  rw [hs, BitVec.toNat_shiftLeft, Nat.shiftLeft_eq]
theorem pk_shlN {n : Nat} (s : Int32) (k : Nat) (hs : (s.toBitVec.smod 32).toNat = k) (h : n * 2 ^ k < 2 ^ 32) : nI n <<< s = nI (n * 2 ^ k) := by
  apply Int32.toBitVec_inj.mp
  apply BitVec.eq_of_toNat_eq
  have hn : n < 2 ^ 32 := Nat.lt_of_le_of_lt (Nat.le_mul_of_pos_right n (Nat.two_pow_pos k)) h
  rw [pk_shl _ _ k hs, pk_tn hn, pk_tn h, Nat.mod_eq_of_lt h]
theorem pk_shr (a s : Int32) (k : Nat) (hs : (s.toBitVec.smod 32).toNat = k) : (a >>> s).toInt = a.toInt >>> k := by
  show (a.toBitVec.sshiftRight (s.toBitVec.smod 32).toNat).toInt = _
  rw [hs, BitVec.toInt_sshiftRight]
  rfl
theorem pk_shrN {n : Nat} (h : n < 2 ^ 31) (s : Int32) (k : Nat) (hs : (s.toBitVec.smod 32).toNat = k) : nI n >>> s = nI (n / 2 ^ k) := by
  apply Int32.toInt_inj.mp
  have h2 : n / 2 ^ k ≤ n := Nat.div_le_self _ _
  rw [pk_shr _ _ k hs, nI_toInt h, nI_toInt (by omega), Int.shiftRight_eq_div_pow]
  rfl
end
section
/-- an event: its process, and its rank (time * 64 + value * 4 + life) -/
abbrev os_E : Type := Nat × Nat
/-- what a running simulation shows: the states, how many each has handled, the last time -/
abbrev os_C : Type := (Nat → Int32) × (Nat → Int32) × Int32
def os_vw (s : Int32) : Nat := ((s >>> ((2 : Int32) &&& 31)) &&& 15).toNatClampNeg
def os_ns (st : Nat → Int32) (e : os_E) : Int32 := ((st e.1 * 5) + nI (e.2 / 4 % 16)) + 1
def os_sn (tg dl : Nat → Nat) (mk : Nat → Int32) (e : os_E) (s : Int32) : List os_E :=
  if 0 < e.2 % 4 ∧ s &&& mk e.1 = 0 then [(tg e.1, (e.2 / 64 + dl e.1) * 64 + os_vw s * 4 + (e.2 % 4 - 1))] else []
def os_up (c : os_C) (e : os_E) : os_C := (upd c.1 e.1 (os_ns c.1 e), upd c.2.1 e.1 (c.2.1 e.1 + 1), nI (e.2 / 64))
def os_c0 : os_C := (fun _ => 0, fun _ => 0, -1)
/-- from the pending events L and what is shown, c, n events with times below T are handled, and then none is left: o is shown -/
def os_Res (tg dl : Nat → Nat) (mk : Nat → Int32) (T : Nat) : Nat → List os_E → os_C → os_C → Prop
  | 0, L, c, o => (∀ x, x ∈ L → T ≤ x.2 / 64) ∧ o = c
  | n + 1, L, c, o => ∃ (e : os_E) (L' : List os_E), L.Perm (e :: L') ∧ (∀ x, x ∈ L → e.2 ≤ x.2) ∧ e.2 / 64 < T ∧ os_Res tg dl mk T n (os_sn tg dl mk e (os_ns c.1 e) ++ L') (os_up c e) o
theorem os_Res_0 {tg dl : Nat → Nat} {mk : Nat → Int32} {T : Nat} {L : List os_E} {c o : os_C} : os_Res tg dl mk T 0 L c o ↔ (∀ x, x ∈ L → T ≤ x.2 / 64) ∧ o = c := Iff.rfl
theorem os_Res_s {tg dl : Nat → Nat} {mk : Nat → Int32} {T n : Nat} {L : List os_E} {c o : os_C} : os_Res tg dl mk T (n + 1) L c o ↔ ∃ (e : os_E) (L' : List os_E), L.Perm (e :: L') ∧ (∀ x, x ∈ L → e.2 ≤ x.2) ∧ e.2 / 64 < T ∧ os_Res tg dl mk T n (os_sn tg dl mk e (os_ns c.1 e) ++ L') (os_up c e) o := Iff.rfl
theorem os_Res_perm {tg dl : Nat → Nat} {mk : Nat → Int32} {T n : Nat} {L M : List os_E} {c o : os_C} (h : L.Perm M) (r : os_Res tg dl mk T n L c o) : os_Res tg dl mk T n M c o := by
  cases n with
  | zero =>
    obtain ⟨h1, h2⟩ := os_Res_0.mp r
    exact os_Res_0.mpr ⟨fun x hx => h1 x (h.mem_iff.mpr hx), h2⟩
  | succ n =>
    obtain ⟨e, L', hp, hm, ht, hr⟩ := os_Res_s.mp r
    exact os_Res_s.mpr ⟨e, L', h.symm.trans hp, fun x hx => hm x (h.mem_iff.mpr hx), ht, hr⟩
theorem os_sn_mem {tg dl : Nat → Nat} {mk : Nat → Int32} (hd : ∀ p, 1 ≤ dl p) {e x : os_E} {s : Int32} (h : x ∈ os_sn tg dl mk e s) : e.2 / 64 < x.2 / 64 := by
  unfold os_sn at h
  split at h
  · rw [List.mem_singleton] at h
    subst h
    have := hd e.1
    dsimp only
    omega
  · exact absurd h (List.not_mem_nil)
theorem os_dia {tg dl : Nat → Nat} {mk : Nat → Int32} {T : Nat} (hd : ∀ p, 1 ≤ dl p) : ∀ (n : Nat) (L : List os_E) (c o : os_C) (e : os_E) (L' : List os_E), L.Perm (e :: L') → (∀ x, x ∈ L → e.2 ≤ x.2) → e.2 / 64 < T → os_Res tg dl mk T n L c o → ∃ n', n = n' + 1 ∧ os_Res tg dl mk T n' (os_sn tg dl mk e (os_ns c.1 e) ++ L') (os_up c e) o := by
  intro n
  induction n with
  | zero =>
    intro L c o e L' hp hm ht r
    have := (os_Res_0.mp r).1 e (hp.mem_iff.mpr List.mem_cons_self)
    omega
  | succ n ih =>
    intro L c o e L' hp hm ht r
    obtain ⟨f, M', hq, hn, hu, hr⟩ := os_Res_s.mp r
    refine ⟨n, rfl, ?_⟩
    by_cases hef : e = f
    · subst hef
      exact os_Res_perm ((hp.symm.trans hq).cons_inv.symm.append_left _) hr
    · have hr2 : e.2 = f.2 := by
        have a := hm f (hq.mem_iff.mpr List.mem_cons_self)
        have b := hn e (hp.mem_iff.mpr List.mem_cons_self)
        omega
      have hp1 : e.1 ≠ f.1 := fun h => hef (Prod.ext h hr2)
      have hf : f ∈ L' := by
        have a : f ∈ e :: L' := hp.mem_iff.mp (hq.mem_iff.mpr List.mem_cons_self)
        rcases List.mem_cons.mp a with h | h
        · exact absurd h.symm hef
        · exact h
      obtain ⟨s, t, rfl⟩ := List.append_of_mem hf
      have h1 : M'.Perm (e :: (s ++ t)) := by
        have a : (f :: M').Perm (f :: e :: (s ++ t)) := hq.symm.trans (hp.trans ((List.perm_middle.cons e).trans (List.Perm.swap ..)))
        exact a.cons_inv
      have hse : os_ns (os_up c f).1 e = os_ns c.1 e := by
        unfold os_ns os_up
        dsimp only
        rw [pk_un hp1]
      have hsf : os_ns (os_up c e).1 f = os_ns c.1 f := by
        unfold os_ns os_up
        dsimp only
        rw [pk_un (Ne.symm hp1)]
      have hcm : ∀ (a : Nat → Int32) (x y : Int32), upd (upd a f.1 x) e.1 y = upd (upd a e.1 y) f.1 x := by
        intro a x y
        funext j
        unfold upd
        by_cases j1 : j = e.1
        · by_cases j2 : j = f.1
          · exact absurd (j1.symm.trans j2) hp1
          · rw [if_pos j1, if_neg j2, if_pos j1]
        · rw [if_neg j1]
          by_cases j2 : j = f.1
          · rw [if_pos j2, if_pos j2]
          · rw [if_neg j2, if_neg j2, if_neg j1]
      have hc : os_up (os_up c f) e = os_up (os_up c e) f := by
        have k1 : os_up (os_up c f) e = (upd (upd c.1 f.1 (os_ns c.1 f)) e.1 (os_ns c.1 e), upd (upd c.2.1 f.1 (c.2.1 f.1 + 1)) e.1 (c.2.1 e.1 + 1), nI (e.2 / 64)) := by
          rw [← hse]
          unfold os_up
          dsimp only
          rw [pk_un hp1]
        have k2 : os_up (os_up c e) f = (upd (upd c.1 e.1 (os_ns c.1 e)) f.1 (os_ns c.1 f), upd (upd c.2.1 e.1 (c.2.1 e.1 + 1)) f.1 (c.2.1 f.1 + 1), nI (f.2 / 64)) := by
          rw [← hsf]
          unfold os_up
          dsimp only
          rw [pk_un (Ne.symm hp1)]
        rw [k1, k2, hcm, hcm, hr2]
      have hin : ∀ (z : os_E) (w : Int32) (K : List os_E), z.2 = e.2 → (∀ x, x ∈ K → x ∈ L) → ∀ x, x ∈ os_sn tg dl mk z w ++ K → e.2 ≤ x.2 := by
        intro z w K hz hK x hx
        rcases List.mem_append.mp hx with h | h
        · have := os_sn_mem hd h
          omega
        · exact hm x (hK x h)
      obtain ⟨n', rfl, hz⟩ := ih (os_sn tg dl mk f (os_ns c.1 f) ++ M') (os_up c f) o e (os_sn tg dl mk f (os_ns c.1 f) ++ (s ++ t)) ((h1.append_left _).trans List.perm_middle) (hin f _ M' hr2.symm (fun x hx => hq.mem_iff.mpr (List.mem_cons_of_mem _ hx))) ht hr
      refine os_Res_s.mpr ⟨f, os_sn tg dl mk e (os_ns c.1 e) ++ (s ++ t), (List.perm_middle.append_left _).trans List.perm_middle, ?_, hu, ?_⟩
      · intro x hx
        rw [← hr2]
        exact hin e _ _ rfl (fun x hx => hp.mem_iff.mpr (List.mem_cons_of_mem _ hx)) x hx
      · rw [hsf, ← hc]
        rw [hse] at hz
        refine os_Res_perm ?_ hz
        exact List.perm_append_comm_assoc _ _ _
theorem os_uni {tg dl : Nat → Nat} {mk : Nat → Int32} {T : Nat} (hd : ∀ p, 1 ≤ dl p) : ∀ (n m : Nat) (L : List os_E) (c o o' : os_C), os_Res tg dl mk T n L c o → os_Res tg dl mk T m L c o' → o = o' := by
  intro n
  induction n with
  | zero =>
    intro m L c o o' r r'
    obtain ⟨h1, h2⟩ := os_Res_0.mp r
    cases m with
    | zero => exact h2.trans (os_Res_0.mp r').2.symm
    | succ m =>
      obtain ⟨e, L', hp, hm, ht, hr⟩ := os_Res_s.mp r'
      have := h1 e (hp.mem_iff.mpr List.mem_cons_self)
      omega
  | succ n ih =>
    intro m L c o o' r r'
    obtain ⟨e, L', hp, hm, ht, hr⟩ := os_Res_s.mp r
    obtain ⟨m', rfl, hz⟩ := os_dia hd m L c o' e L' hp hm ht r'
    exact ih _ _ _ _ _ hr hz
/-- the events ev j, j < m, that are pending -/
def os_pd (ev : Nat → os_E) (ac : Nat → Bool) : Nat → List os_E
  | 0 => []
  | m + 1 => if ac m = true then ev m :: os_pd ev ac m else os_pd ev ac m
theorem os_pd_mem {ev : Nat → os_E} {ac : Nat → Bool} {x : os_E} : ∀ {m : Nat}, x ∈ os_pd ev ac m ↔ ∃ j, j < m ∧ ac j = true ∧ x = ev j := by
  intro m
  induction m with
  | zero =>
    refine ⟨fun h => absurd h List.not_mem_nil, fun ⟨j, h, _⟩ => absurd h (by omega)⟩
  | succ m ih =>
    unfold os_pd
    by_cases h : ac m = true
    · rw [if_pos h, List.mem_cons, ih]
      constructor
      · rintro (e | ⟨j, h1, h2, h3⟩)
        · exact ⟨m, by omega, h, e⟩
        · exact ⟨j, by omega, h2, h3⟩
      · rintro ⟨j, h1, h2, h3⟩
        by_cases hj : j = m
        · subst hj
          exact Or.inl h3
        · exact Or.inr ⟨j, by omega, h2, h3⟩
    · rw [if_neg h, ih]
      constructor
      · rintro ⟨j, h1, h2, h3⟩
        exact ⟨j, by omega, h2, h3⟩
      · rintro ⟨j, h1, h2, h3⟩
        by_cases hj : j = m
        · subst hj
          exact absurd h2 h
        · exact ⟨j, by omega, h2, h3⟩
theorem os_pd_congr {ev fv : Nat → os_E} {ac bc : Nat → Bool} : ∀ {m : Nat}, (∀ j, j < m → ac j = bc j) → (∀ j, j < m → ac j = true → ev j = fv j) → os_pd ev ac m = os_pd fv bc m := by
  intro m
  induction m with
  | zero => intro _ _; rfl
  | succ m ih =>
    intro h1 h2
    have e := ih (fun j hj => h1 j (by omega)) (fun j hj => h2 j (by omega))
    unfold os_pd
    rw [← h1 m (by omega), e]
    by_cases h : ac m = true
    · rw [if_pos h, if_pos h, h2 m (by omega) h]
    · rw [if_neg h, if_neg h]
def os_rm (ac : Nat → Bool) (k : Nat) : Nat → Bool := fun j => if j = k then false else ac j
theorem os_rm_s {ac : Nat → Bool} {k : Nat} : os_rm ac k k = false := if_pos rfl
theorem os_rm_n {ac : Nat → Bool} {k j : Nat} (h : j ≠ k) : os_rm ac k j = ac j := if_neg h
theorem os_pd_rm {ev : Nat → os_E} {ac : Nat → Bool} : ∀ {m : Nat} (j : Nat), j < m → ac j = true → (os_pd ev ac m).Perm (ev j :: os_pd ev (os_rm ac j) m) := by
  intro m
  induction m with
  | zero => intro j h; omega
  | succ m ih =>
    intro j hj ha
    by_cases e : j = m
    · subst e
      unfold os_pd
      rw [if_pos ha, os_rm_s, if_neg (by decide)]
      rw [os_pd_congr (ev := ev) (fv := ev) (ac := ac) (bc := os_rm ac j) (m := j) (fun i hi => (os_rm_n (by omega)).symm) (fun _ _ _ => rfl)]
    · have h := ih j (by omega) ha
      unfold os_pd
      rw [os_rm_n (ac := ac) (k := j) (j := m) (by omega)]
      by_cases hm : ac m = true
      · rw [if_pos hm, if_pos hm]
        exact (h.cons _).trans (List.Perm.swap ..)
      · rw [if_neg hm, if_neg hm]
        exact h
/-- the weight: how many events may still come of it -/
def os_wt : List os_E → Nat
  | [] => 0
  | e :: L => e.2 % 4 + 1 + os_wt L
theorem os_wt_perm {L M : List os_E} (h : L.Perm M) : os_wt L = os_wt M := by
  induction h with
  | nil => rfl
  | cons x _ ih => unfold os_wt; omega
  | swap x y l => simp only [os_wt]; omega
  | trans _ _ ih1 ih2 => omega
theorem os_wt_app {L M : List os_E} : os_wt (L ++ M) = os_wt L + os_wt M := by
  induction L with
  | nil => simp [os_wt]
  | cons x L ih => simp only [List.cons_append, os_wt, ih]; omega
theorem os_wt_ge {L : List os_E} : L.length ≤ os_wt L := by
  induction L with
  | nil => simp [os_wt]
  | cons x L ih => simp only [List.length_cons, os_wt]; omega
theorem os_wt_le {L : List os_E} : os_wt L ≤ 4 * L.length := by
  induction L with
  | nil => simp [os_wt]
  | cons x L ih => simp only [List.length_cons, os_wt]; omega
theorem os_wt_sn {tg dl : Nat → Nat} {mk : Nat → Int32} {e : os_E} {s : Int32} : os_wt (os_sn tg dl mk e s) ≤ e.2 % 4 := by
  unfold os_sn
  split
  · simp only [os_wt]
    omega
  · simp only [os_wt]
    omega
def os_wf (e : os_E) : Prop := e.1 < 4 ∧ e.2 / 64 + 9 * (e.2 % 4) ≤ 126
theorem os_vw_e (s : Int32) : (s >>> ((2 : Int32) &&& 31)) &&& 15 = nI (os_vw s) ∧ os_vw s < 16 := by
  obtain ⟨j, hj, e⟩ := pk_andE (s >>> ((2 : Int32) &&& 31)) (m := 15) 4 (by decide)
  unfold os_vw
  rw [e, nI_clamp (by omega)]
  exact ⟨rfl, by omega⟩
theorem os_sn_wf {tg dl : Nat → Nat} {mk : Nat → Int32} (ht : ∀ p, tg p < 4) (hd : ∀ p, dl p ≤ 9) {e x : os_E} {s : Int32} (he : os_wf e) (h : x ∈ os_sn tg dl mk e s) : os_wf x := by
  unfold os_sn at h
  split at h
  case isTrue hc =>
    rw [List.mem_singleton] at h
    subst h
    have h1 := hd e.1
    have h2 := (os_vw_e s).2
    have h3 := he.2
    refine ⟨ht _, ?_⟩
    dsimp only
    have k1 : ((e.2 / 64 + dl e.1) * 64 + os_vw s * 4 + (e.2 % 4 - 1)) / 64 = e.2 / 64 + dl e.1 := by omega
    have k2 : ((e.2 / 64 + dl e.1) * 64 + os_vw s * 4 + (e.2 % 4 - 1)) % 4 = e.2 % 4 - 1 := by omega
    rw [k1, k2]
    omega
  case isFalse => exact absurd h (List.not_mem_nil)
/-- the first i of the events ev, with the states sa behind them, are a run from L0: L is pending then, st are the states -/
def os_Pre (tg dl : Nat → Nat) (mk : Nat → Int32) (L0 : List os_E) (ev : Nat → os_E) (sa : Nat → Int32) : Nat → List os_E → (Nat → Int32) → Prop
  | 0, L, st => L.Perm L0 ∧ st = fun _ => 0
  | i + 1, L, st => ∃ (Lp : List os_E) (sp : Nat → Int32) (L' : List os_E), os_Pre tg dl mk L0 ev sa i Lp sp ∧ Lp.Perm (ev i :: L') ∧ (∀ x, x ∈ Lp → (ev i).2 ≤ x.2) ∧ sa i = os_ns sp (ev i) ∧ L.Perm (os_sn tg dl mk (ev i) (sa i) ++ L') ∧ st = upd sp (ev i).1 (sa i)
theorem os_Pre_0 {tg dl : Nat → Nat} {mk : Nat → Int32} {L0 : List os_E} {ev : Nat → os_E} {sa : Nat → Int32} {L : List os_E} {st : Nat → Int32} : os_Pre tg dl mk L0 ev sa 0 L st ↔ L.Perm L0 ∧ st = fun _ => 0 := Iff.rfl
theorem os_Pre_s {tg dl : Nat → Nat} {mk : Nat → Int32} {L0 : List os_E} {ev : Nat → os_E} {sa : Nat → Int32} {i : Nat} {L : List os_E} {st : Nat → Int32} : os_Pre tg dl mk L0 ev sa (i + 1) L st ↔ ∃ (Lp : List os_E) (sp : Nat → Int32) (L' : List os_E), os_Pre tg dl mk L0 ev sa i Lp sp ∧ Lp.Perm (ev i :: L') ∧ (∀ x, x ∈ Lp → (ev i).2 ≤ x.2) ∧ sa i = os_ns sp (ev i) ∧ L.Perm (os_sn tg dl mk (ev i) (sa i) ++ L') ∧ st = upd sp (ev i).1 (sa i) := Iff.rfl
theorem os_Pre_congr {tg dl : Nat → Nat} {mk : Nat → Int32} {L0 : List os_E} {ev fv : Nat → os_E} {sa sb : Nat → Int32} : ∀ (i : Nat) (L : List os_E) (st : Nat → Int32), (∀ j, j < i → ev j = fv j ∧ sa j = sb j) → os_Pre tg dl mk L0 ev sa i L st → os_Pre tg dl mk L0 fv sb i L st := by
  intro i
  induction i with
  | zero => intro L st _ h; exact h
  | succ i ih =>
    intro L st hj h
    obtain ⟨Lp, sp, L', h1, h2, h3, h4, h5, h6⟩ := os_Pre_s.mp h
    obtain ⟨e1, e2⟩ := hj i (by omega)
    rw [e1] at h2 h3 h4 h5 h6
    rw [e2] at h4 h5 h6
    exact os_Pre_s.mpr ⟨Lp, sp, L', ih Lp sp (fun j hi => hj j (by omega)) h1, h2, h3, h4, h5, h6⟩
theorem os_Pre_perm {tg dl : Nat → Nat} {mk : Nat → Int32} {L0 : List os_E} {ev : Nat → os_E} {sa : Nat → Int32} {i : Nat} {L M : List os_E} {st : Nat → Int32} (h : M.Perm L) (r : os_Pre tg dl mk L0 ev sa i L st) : os_Pre tg dl mk L0 ev sa i M st := by
  cases i with
  | zero => exact ⟨h.trans r.1, r.2⟩
  | succ i =>
    obtain ⟨Lp, sp, L', h1, h2, h3, h4, h5, h6⟩ := os_Pre_s.mp r
    exact os_Pre_s.mpr ⟨Lp, sp, L', h1, h2, h3, h4, h.trans h5, h6⟩
/-- what the events of the run with times below T show -/
def os_Fi (T : Nat) (ev : Nat → os_E) (sa : Nat → Int32) : Nat → os_C
  | 0 => os_c0
  | i + 1 => if (ev i).2 / 64 < T then (upd (os_Fi T ev sa i).1 (ev i).1 (sa i), upd (os_Fi T ev sa i).2.1 (ev i).1 ((os_Fi T ev sa i).2.1 (ev i).1 + 1), nI ((ev i).2 / 64)) else os_Fi T ev sa i
theorem os_Fi_t {T : Nat} {ev : Nat → os_E} {sa : Nat → Int32} {i : Nat} (h : (ev i).2 / 64 < T) : os_Fi T ev sa (i + 1) = (upd (os_Fi T ev sa i).1 (ev i).1 (sa i), upd (os_Fi T ev sa i).2.1 (ev i).1 ((os_Fi T ev sa i).2.1 (ev i).1 + 1), nI ((ev i).2 / 64)) := if_pos h
theorem os_Fi_f {T : Nat} {ev : Nat → os_E} {sa : Nat → Int32} {i : Nat} (h : ¬ (ev i).2 / 64 < T) : os_Fi T ev sa (i + 1) = os_Fi T ev sa i := if_neg h
theorem os_run {tg dl : Nat → Nat} {mk : Nat → Int32} {L0 : List os_E} {ev : Nat → os_E} {sa : Nat → Int32} {T : Nat} (hd : ∀ p, 1 ≤ dl p) : ∀ (i : Nat) (L : List os_E) (st : Nat → Int32), os_Pre tg dl mk L0 ev sa i L st →
    ((os_Fi T ev sa i).1 = st ∧ ∀ n o, os_Res tg dl mk T n L (os_Fi T ev sa i) o → os_Res tg dl mk T (n + i) L0 os_c0 o) ∨ ((∀ x, x ∈ L → T ≤ x.2 / 64) ∧ ∃ n, os_Res tg dl mk T n L0 os_c0 (os_Fi T ev sa i)) := by
  intro i
  induction i with
  | zero =>
    intro L st h
    obtain ⟨h1, h2⟩ := os_Pre_0.mp h
    exact Or.inl ⟨h2.symm, fun n o r => os_Res_perm h1 r⟩
  | succ i ih =>
    intro L st h
    obtain ⟨Lp, sp, L', h1, h2, h3, h4, h5, h6⟩ := os_Pre_s.mp h
    have hev : ev i ∈ Lp := h2.mem_iff.mpr List.mem_cons_self
    have hall : ¬ (ev i).2 / 64 < T → ∀ x, x ∈ L → T ≤ x.2 / 64 := by
      intro hT x hx
      rcases List.mem_append.mp (h5.mem_iff.mp hx) with hs | hl
      · have := os_sn_mem hd hs
        omega
      · have := h3 x (h2.mem_iff.mpr (List.mem_cons_of_mem _ hl))
        omega
    rcases ih Lp sp h1 with ⟨a, b⟩ | ⟨a, n, b⟩
    · by_cases hT : (ev i).2 / 64 < T
      · refine Or.inl ⟨?_, fun n o r => ?_⟩
        · rw [os_Fi_t hT, h6, a]
        · have e : n + (i + 1) = (n + 1) + i := by omega
          rw [e]
          refine b (n + 1) o (os_Res_s.mpr ⟨ev i, L', h2, h3, hT, ?_⟩)
          have e1 : os_ns (os_Fi T ev sa i).1 (ev i) = sa i := by rw [a, h4]
          have e2 : os_up (os_Fi T ev sa i) (ev i) = os_Fi T ev sa (i + 1) := by
            rw [os_Fi_t hT]
            unfold os_up
            rw [e1]
          rw [e1, e2]
          exact os_Res_perm h5 r
      · refine Or.inr ⟨hall hT, 0 + i, ?_⟩
        rw [os_Fi_f hT]
        refine b 0 _ (os_Res_0.mpr ⟨fun x hx => ?_, rfl⟩)
        have := h3 x hx
        omega
    · have hT : ¬ (ev i).2 / 64 < T := by
        have := a _ hev
        omega
      refine Or.inr ⟨hall hT, n, ?_⟩
      rw [os_Fi_f hT]
      exact b
theorem os_agree {tg dl : Nat → Nat} {mk : Nat → Int32} {L0 : List os_E} {ev : Nat → os_E} {sa : Nat → Int32} {T : Nat} (hd : ∀ p, 1 ≤ dl p) {m n : Nat} {st : Nat → Int32} {o : os_C} (h : os_Pre tg dl mk L0 ev sa m [] st) (r : os_Res tg dl mk T n L0 os_c0 o) : o = os_Fi T ev sa m := by
  rcases os_run (T := T) hd m [] st h with ⟨_, b⟩ | ⟨_, k, b⟩
  · exact os_uni hd _ _ _ _ _ _ r (b 0 _ (os_Res_0.mpr ⟨fun x hx => absurd hx List.not_mem_nil, rfl⟩))
  · exact os_uni hd _ _ _ _ _ _ r b
def os_sum (c : os_C) : Int32 := ((c.2.1 0 + c.2.1 1) + c.2.1 2) + c.2.1 3
theorem os_sum_up {h : Nat → Int32} {p : Nat} (hp : p < 4) : ((upd h p (h p + 1) 0 + upd h p (h p + 1) 1) + upd h p (h p + 1) 2) + upd h p (h p + 1) 3 = (((h 0 + h 1) + h 2) + h 3) + 1 := by
  have c : p = 0 ∨ p = 1 ∨ p = 2 ∨ p = 3 := by omega
  rcases c with rfl | rfl | rfl | rfl
  · rw [pk_us, pk_un (by decide), pk_un (by decide), pk_un (by decide)]; grind
  · rw [pk_us, pk_un (by decide), pk_un (by decide), pk_un (by decide)]; grind
  · rw [pk_us, pk_un (by decide), pk_un (by decide), pk_un (by decide)]; grind
  · rw [pk_us, pk_un (by decide), pk_un (by decide), pk_un (by decide)]; grind
theorem os_sum_t {T : Nat} {ev : Nat → os_E} {sa : Nat → Int32} {i : Nat} (h : (ev i).2 / 64 < T) (hp : (ev i).1 < 4) : os_sum (os_Fi T ev sa (i + 1)) = os_sum (os_Fi T ev sa i) + 1 := by
  rw [os_Fi_t h]
  exact os_sum_up hp
theorem os_sum_all {T : Nat} {ev : Nat → os_E} {sa : Nat → Int32} : ∀ {m : Nat}, (∀ j, j < m → (ev j).2 / 64 < T ∧ (ev j).1 < 4) → os_sum (os_Fi T ev sa m) = nI m := by
  intro m
  induction m with
  | zero => intro _; exact (by decide : (((0 : Int32) + 0) + 0) + 0 = nI 0)
  | succ m ih =>
    intro h
    rw [os_sum_t (h m (by omega)).1 (h m (by omega)).2, ih (fun j hj => h j (by omega)), nI_1]
end
section
theorem os_or {k a b : Nat} (ha : a < 2 ^ k) (h : b * 2 ^ k + a < 2 ^ 32) : nI (b * 2 ^ k) ||| nI a = nI (b * 2 ^ k + a) := by
  have h1 : b * 2 ^ k ||| a = b * 2 ^ k + a := by rw [← Nat.shiftLeft_eq, Nat.shiftLeft_add_eq_or_of_lt ha]
  apply Int32.toBitVec_inj.mp
  apply BitVec.eq_of_toNat_eq
  rw [Int32.toBitVec_or, BitVec.toNat_or, pk_tn (by omega), pk_tn (by omega), pk_tn h, h1]
theorem os_rank {t v l : Nat} (ht : t ≤ 126) (hv : v < 16) (hl : l < 4) : ((nI t <<< ((6 : Int32) &&& 31)) ||| (nI v <<< ((2 : Int32) &&& 31))) ||| nI l = nI (t * 64 + v * 4 + l) := by
  rw [pk_shlN _ 6 (by decide) (by omega), pk_shlN _ 2 (by decide) (by omega)]
  rw [os_or (k := 6) (b := t) (a := v * 2 ^ 2) (by omega) (by omega)]
  have e : t * 2 ^ 6 + v * 2 ^ 2 = (t * 16 + v) * 2 ^ 2 := by omega
  rw [e, os_or (k := 2) (by omega) (by omega)]
theorem os_vlu {r : Nat} (h : r < 2 ^ 31) : (nI r >>> ((2 : Int32) &&& 31)) &&& 15 = nI (r / 4 % 16) := by
  rw [pk_shrN h _ 2 (by decide), pk_andN (by omega) 4 (by decide)]
theorem os_lfu {r : Nat} (h : r < 2 ^ 31) : nI r &&& 3 = nI (r % 4) := by
  rw [pk_andN (by omega) 2 (by decide)]
theorem os_tmu {r : Nat} (h : r < 2 ^ 31) : nI r >>> ((6 : Int32) &&& 31) = nI (r / 64) := by
  rw [pk_shrN h _ 6 (by decide)]
def os_Xok (ap ar : Nat → Int32) (ev : Nat → os_E) (m : Nat) : Prop := ∀ j, j < m → ap j = nI (ev j).1 ∧ ar j = nI (ev j).2 ∧ os_wf (ev j)
def os_Rul (tg dl : Nat → Nat) (rt rd : Nat → Int32) : Prop := (∀ p, tg p < 4 ∧ 1 ≤ dl p ∧ dl p ≤ 9) ∧ ∀ p, p < 4 → rt p = nI (tg p) ∧ rd p = nI (dl p)
section
variable {post : SX → Prop} {ic ec hz : Int32} {rt rd rm ip ir ep er sa cs : Nat → Int32} {tg dl : Nat → Nat}
theorem os_x22 {n : Nat} (hn : n ≤ 24) (H : ∀ ep' er' : Nat → Int32, (∀ j, j < n → ep' j = ip j ∧ er' j = ir j) → post (nI n, nI n, hz, rt, rd, rm, ip, ir, ep', er', sa, cs)) : ∀ (d i : Nat) (ep er : Nat → Int32), i + d = n → (∀ j, j < i → ep j = ip j ∧ er j = ir j) → wX_startSimulation_22 post (nI n) ec hz (d + 1) (nI i) rt rd rm ip ir ep er sa cs := by
  intro d
  induction d with
  | zero =>
    intro i ep er hi h
    refine br_t (nI_le (by omega) (by omega)) (H ep er (fun j hj => h j (by omega)))
  | succ d ih =>
    intro i ep er hi h
    have hc : (nI i).toNatClampNeg = i := nI_clamp (by omega)
    have v1 : vp_in (nI i) 24 := vp_in_nI (by omega) (by decide)
    have v2 : vp_in (nI i) 96 := vp_in_nI (by omega) (by decide)
    refine br_f (nI_ge (by omega) (by omega)) ⟨v1, v2, nm_e ⟨v1, v2, nm_e (nm_r (nI_1 i) (ih (i + 1) _ _ (by omega) ?_))⟩⟩
    intro j hj
    rw [hc]
    by_cases e : j = i
    · subst e
      exact ⟨pk_us, pk_us⟩
    · rw [pk_un e, pk_un e]
      exact h j (by omega)
theorem os_x2 {n : Nat} (hn : n ≤ 24) (H : ∀ ep' er' cs' : Nat → Int32, (∀ j, j < n → ep' j = ip j ∧ er' j = ir j) → (∀ p, p < 4 → cs' p = 0) → post (nI n, nI n, hz, rt, rd, rm, ip, ir, ep', er', sa, cs')) : ∀ (d i : Nat) (cs : Nat → Int32), i + d = 4 → (∀ p, p < i → cs p = 0) → wX_startSimulation_2 post (nI n) ec hz (d + 1) (nI i) rt rd rm ip ir ep er sa cs := by
  intro d
  induction d with
  | zero =>
    intro i cs hi h
    refine br_t (nI_le (a := 4) (by omega) (by omega)) ⟨n + 1, ?_⟩
    exact os_x22 hn (fun ep' er' h1 => H ep' er' cs h1 (fun p hp => h p (by omega))) n 0 ep er (by omega) (fun j hj => absurd hj (by omega))
  | succ d ih =>
    intro i cs hi h
    have hc : (nI i).toNatClampNeg = i := nI_clamp (by omega)
    refine br_f (nI_ge (b := 4) (by omega) (by decide)) ⟨vp_in_nI (by omega) (by decide), nm_e (nm_r (nI_1 i) (ih (i + 1) _ (by omega) ?_))⟩
    intro j hj
    rw [hc]
    by_cases e : j = i
    · subst e
      exact pk_us
    · rw [pk_un e]
      exact h j (by omega)
theorem os_xstart {n : Nat} (hn : n ≤ 24) (H : ∀ ep' er' cs' : Nat → Int32, (∀ j, j < n → ep' j = ip j ∧ er' j = ir j) → (∀ p, p < 4 → cs' p = 0) → post (nI n, nI n, hz, rt, rd, rm, ip, ir, ep', er', sa, cs')) : wpX_startSimulation post (nI n, ec, hz, rt, rd, rm, ip, ir, ep, er, sa, cs) := by
  unfold wpX_startSimulation
  exact ⟨5, os_x2 hn H 4 0 cs (by omega) (fun p hp => absurd hp (by omega))⟩
theorem os_x_r {e : os_E} (h : os_wf e) : e.2 < 8192 := by
  have := h.2
  omega
theorem os_xb {ev : Nat → os_E} {i m : Nat} (hm : m ≤ 96) (him : i < m) (hx : os_Xok ep er ev m) (H : ∀ e, i ≤ e → e < m → (∀ j, i ≤ j → j < m → (ev e).2 ≤ (ev j).2) → post (ic, nI m, hz, rt, rd, rm, ip, ir, upd (upd ep e (ep i)) i (ep e), upd (upd er e (er i)) i (er e), sa, cs)) : ∀ (d e k : Nat), k + d = m → i ≤ e → e < k → (∀ j, i ≤ j → j < k → (ev e).2 ≤ (ev j).2) → wX_bringEarliestTo_6 post (nI i) ic (nI m) hz rt rd rm ip ir ep er sa cs (d + 1) (nI e) (nI k) := by
  intro d
  have ci : (nI i).toNatClampNeg = i := nI_clamp (by omega)
  induction d with
  | zero =>
    intro e k hk hie hek h
    have ce : (nI e).toNatClampNeg = e := nI_clamp (by omega)
    have vi : vp_in (nI i) 96 := vp_in_nI (by omega) (by decide)
    have ve : vp_in (nI e) 96 := vp_in_nI (by omega) (by decide)
    refine br_t (nI_le (by omega) (by omega)) ?_
    rw [ce, ci]
    exact ⟨ve, nm_e ⟨ve, nm_e ⟨vi, ve, nm_e ⟨vi, ve, nm_e ⟨vi, nm_e ⟨vi, nm_e (H e hie (by omega) (fun j h1 h2 => h j h1 (by omega)))⟩⟩⟩⟩⟩⟩
  | succ d ih =>
    intro e k hk hie hek h
    have ce : (nI e).toNatClampNeg = e := nI_clamp (by omega)
    have ck : (nI k).toNatClampNeg = k := nI_clamp (by omega)
    have he := hx e (by omega)
    have hkx := hx k (by omega)
    have b1 := os_x_r he.2.2
    have b2 := os_x_r hkx.2.2
    refine br_f (nI_ge (by omega) (by omega)) ⟨vp_in_nI (by omega) (by decide), vp_in_nI (by omega) (by decide), ?_⟩
    rw [ce, ck]
    refine pk_le (ev e).2 (ev k).2 (fun z => nm_r (nI_1 k) (ih e (k + 1) (by omega) hie (by omega) ?_)) (fun z => nm_r (nI_1 k) (ih k (k + 1) (by omega) (by omega) (by omega) ?_)) he.2.1 hkx.2.1
    · intro j h1 h2
      by_cases hj : j = k
      · subst hj
        exact z
      · exact h j h1 (by omega)
    · intro j h1 h2
      by_cases hj : j = k
      · subst hj
        exact Nat.le_refl _
      · have := h j h1 (by omega)
        omega
theorem os_xbring {ev : Nat → os_E} {i m : Nat} (hm : m ≤ 96) (him : i < m) (hx : os_Xok ep er ev m) (H : ∀ e, i ≤ e → e < m → (∀ j, i ≤ j → j < m → (ev e).2 ≤ (ev j).2) → post (ic, nI m, hz, rt, rd, rm, ip, ir, upd (upd ep e (ep i)) i (ep e), upd (upd er e (er i)) i (er e), sa, cs)) : wpX_bringEarliestTo post (ic, nI m, hz, rt, rd, rm, ip, ir, ep, er, sa, cs) (nI i) := by
  unfold wpX_bringEarliestTo
  refine nm_r (nI_1 i) ⟨m - (i + 1) + 1, os_xb hm him hx H (m - (i + 1)) i (i + 1) (by omega) (by omega) (by omega) ?_⟩
  intro j h1 h2
  have e : j = i := by omega
  subst e
  exact Nat.le_refl _
theorem os_xsend {m p r : Nat} {s : Int32} (hm : m < 96) (hp : p < 4) (hr : r / 64 + 9 * (r % 4) ≤ 126) (hl : 0 < r % 4) (R : os_Rul tg dl rt rd) (H : post (ic, nI (m + 1), hz, rt, rd, rm, ip, ir, upd ep m (nI (tg p)), upd er m (nI ((r / 64 + dl p) * 64 + os_vw s * 4 + (r % 4 - 1))), sa, cs)) : wpX_send post (ic, nI m, hz, rt, rd, rm, ip, ir, ep, er, sa, cs) (nI p) (nI r) s := by
  have cm : (nI m).toNatClampNeg = m := nI_clamp (by omega)
  have cp : (nI p).toNatClampNeg = p := nI_clamp (by omega)
  have d9 := (R.1 p).2.2
  have vm : vp_in (nI m) 96 := vp_in_nI hm (by decide)
  have vp : vp_in (nI p) 4 := vp_in_nI hp (by decide)
  have w16 := (os_vw_e s).2
  obtain ⟨l, hl'⟩ : ∃ l, r % 4 = l + 1 := ⟨r % 4 - 1, by omega⟩
  unfold wpX_send
  dsimp only
  rw [cm, cp]
  refine br_t (nI_lt (b := 96) hm (by decide)) ?_
  unfold wpX_timeOf
  refine ⟨vp, nm_r (e' := nI (r / 64 + dl p)) (by rw [os_tmu (by omega), (R.2 p hp).2, nI_add]) ?_⟩
  refine nm_r (os_vw_e s).1 ?_
  unfold wpX_lifeOf
  refine nm_r (e' := nI (r % 4 - 1)) (by rw [os_lfu (by omega), hl', nI_pred]; rfl) ?_
  refine ⟨vp, vm, nm_r (congrArg (upd ep m) (R.2 p hp).1) ?_⟩
  unfold wpX_rankOf
  exact ⟨vm, nm_r (congrArg (upd er m) (os_rank (by omega) w16 (by omega))) (nm_r (nI_1 m) H)⟩
theorem os_sn_nil {mk : Nat → Int32} {e : os_E} {s : Int32} (h : ¬ (0 < e.2 % 4 ∧ s &&& mk e.1 = 0)) : os_sn tg dl mk e s = [] := if_neg h
theorem os_sn_one {mk : Nat → Int32} {e : os_E} {s : Int32} (h : 0 < e.2 % 4 ∧ s &&& mk e.1 = 0) : os_sn tg dl mk e s = [(tg e.1, (e.2 / 64 + dl e.1) * 64 + os_vw s * 4 + (e.2 % 4 - 1))] := if_pos h
theorem os_xhandle {ev : Nat → os_E} {st : Nat → Int32} {i m : Nat} {s : Int32} (hm : m ≤ 96) (him : i < m) (hx : os_Xok ep er ev m) (R : os_Rul tg dl rt rd) (hcs : ∀ p, p < 4 → cs p = st p) (hs : s = os_ns st (ev i)) (hroom : 0 < (ev i).2 % 4 → m < 96)
    (H0 : os_sn tg dl rm (ev i) s = [] → post (ic, nI m, hz, rt, rd, rm, ip, ir, ep, er, upd sa i s, upd cs (ev i).1 s))
    (H1 : ∀ x : os_E, os_sn tg dl rm (ev i) s = [x] → m < 96 → post (ic, nI (m + 1), hz, rt, rd, rm, ip, ir, upd ep m (nI x.1), upd er m (nI x.2), upd sa i s, upd cs (ev i).1 s)) : wpX_handle post (ic, nI m, hz, rt, rd, rm, ip, ir, ep, er, sa, cs) (nI i) := by
  have ci : (nI i).toNatClampNeg = i := nI_clamp (by omega)
  obtain ⟨h1, h2, h3⟩ := hx i him
  have b := os_x_r h3
  have cp : (nI (ev i).1).toNatClampNeg = (ev i).1 := nI_clamp (by have := h3.1; omega)
  have vi : vp_in (nI i) 96 := vp_in_nI (by omega) (by decide)
  have vp : vp_in (nI (ev i).1) 4 := vp_in_nI h3.1 (by decide)
  unfold wpX_handle
  dsimp only
  rw [ci]
  refine ⟨vi, nm_r h1 ⟨vi, nm_r h2 ⟨vp, ?_⟩⟩⟩
  rw [cp]
  unfold wpX_valueOf
  refine nm_r (e' := s) (by rw [os_vlu (by omega), hcs _ h3.1, hs]; rfl) ⟨vp, nm_e ⟨vi, nm_e ?_⟩⟩
  unfold wpX_lifeOf
  refine pk_le ((ev i).2 % 4) 0 (fun z => H0 (os_sn_nil (by omega))) (fun z => ⟨vp, br_c (fun y => ?_) (fun y => H0 (os_sn_nil (fun q => y q.2)))⟩) (os_lfu (by omega))
  exact os_xsend (hroom z) h3.1 h3.2 z R (H1 _ (os_sn_one ⟨z, y⟩) (hroom z))
end
end
section
def os_sw (ev : Nat → os_E) (a b : Nat) : Nat → os_E := fun j => if j = a then ev b else if j = b then ev a else ev j
theorem os_sw_a {ev : Nat → os_E} {a b : Nat} : os_sw ev a b a = ev b := if_pos rfl
theorem os_sw_b {ev : Nat → os_E} {a b : Nat} : os_sw ev a b b = ev a := by
  unfold os_sw
  by_cases h : b = a
  · rw [if_pos h, h]
  · rw [if_neg h, if_pos rfl]
theorem os_sw_n {ev : Nat → os_E} {a b j : Nat} (h1 : j ≠ a) (h2 : j ≠ b) : os_sw ev a b j = ev j := by
  unfold os_sw
  rw [if_neg h1, if_neg h2]
def os_ge (i : Nat) : Nat → Bool := fun j => decide (i ≤ j)
theorem os_ge_t {i j : Nat} (h : i ≤ j) : os_ge i j = true := decide_eq_true h
theorem os_ge_f {i j : Nat} (h : j < i) : os_ge i j = false := decide_eq_false (by omega)
theorem os_ge_i {i j : Nat} (h : os_ge i j = true) : i ≤ j := of_decide_eq_true h
theorem os_pd_sw {ev : Nat → os_E} {i e m : Nat} (h1 : i ≤ e) (h2 : e < m) : (os_pd ev (os_ge i) m).Perm (ev e :: os_pd (os_sw ev i e) (os_ge (i + 1)) m) := by
  have a := os_pd_rm (ev := ev) (ac := os_ge i) e h2 (os_ge_t h1)
  by_cases he : e = i
  · subst he
    have c : os_pd ev (os_rm (os_ge e) e) m = os_pd (os_sw ev e e) (os_ge (e + 1)) m := by
      refine os_pd_congr (fun j hj => ?_) (fun j hj hc => ?_)
      · by_cases q : j = e
        · subst q
          rw [os_rm_s, os_ge_f (by omega)]
        · rw [os_rm_n q]
          by_cases q2 : e ≤ j
          · rw [os_ge_t q2, os_ge_t (by omega)]
          · rw [os_ge_f (by omega), os_ge_f (by omega)]
      · have q : j ≠ e := by
          intro q
          subst q
          rw [os_rm_s] at hc
          exact absurd hc (by decide)
        rw [os_sw_n q q]
    rw [← c]
    exact a
  · have b := os_pd_rm (ev := ev) (ac := os_rm (os_ge i) e) (m := m) i (by omega) (by rw [os_rm_n (by omega), os_ge_t (Nat.le_refl _)])
    have d := os_pd_rm (ev := os_sw ev i e) (ac := os_ge (i + 1)) e h2 (os_ge_t (by omega))
    rw [os_sw_b] at d
    have c : os_pd ev (os_rm (os_rm (os_ge i) e) i) m = os_pd (os_sw ev i e) (os_rm (os_ge (i + 1)) e) m := by
      refine os_pd_congr (fun j hj => ?_) (fun j hj hc => ?_)
      · by_cases q : j = e
        · subst q
          rw [os_rm_s, os_rm_n he, os_rm_s]
        · rw [os_rm_n q]
          by_cases q2 : j = i
          · subst q2
            rw [os_rm_s, os_ge_f (by omega)]
          · rw [os_rm_n q2, os_rm_n q]
            by_cases q3 : i ≤ j
            · rw [os_ge_t q3, os_ge_t (by omega)]
            · rw [os_ge_f (by omega), os_ge_f (by omega)]
      · have q : j ≠ i := by
          intro q
          subst q
          rw [os_rm_s] at hc
          exact absurd hc (by decide)
        have q2 : j ≠ e := by
          intro q2
          subst q2
          rw [os_rm_n q, os_rm_s] at hc
          exact absurd hc (by decide)
        rw [os_sw_n q q2]
    rw [← c] at d
    exact a.trans ((b.trans d.symm).cons _)
theorem os_pd_len {ev : Nat → os_E} {ac : Nat → Bool} : ∀ {m : Nat}, (∀ j, j < m → ac j = true) → (os_pd ev ac m).length = m := by
  intro m
  induction m with
  | zero => intro _; rfl
  | succ m ih =>
    intro h
    unfold os_pd
    rw [if_pos (h m (by omega)), List.length_cons, ih (fun j hj => h j (by omega))]
theorem os_Xok_sw {ep er : Nat → Int32} {ev : Nat → os_E} {i e m : Nat} (hi : i < m) (he : e < m) (h : os_Xok ep er ev m) : os_Xok (upd (upd ep e (ep i)) i (ep e)) (upd (upd er e (er i)) i (er e)) (os_sw ev i e) m := by
  intro j hj
  by_cases q : j = i
  · subst q
    rw [pk_us, pk_us, os_sw_a]
    exact h e he
  · rw [pk_un q, pk_un q]
    by_cases q2 : j = e
    · subst q2
      rw [pk_us, pk_us, os_sw_b]
      exact h i hi
    · rw [pk_un q2, pk_un q2, os_sw_n q q2]
      exact h j hj
def os_ad (ev : Nat → os_E) (m : Nat) (x : os_E) : Nat → os_E := fun j => if j = m then x else ev j
theorem os_ad_s {ev : Nat → os_E} {m : Nat} {x : os_E} : os_ad ev m x m = x := if_pos rfl
theorem os_ad_n {ev : Nat → os_E} {m j : Nat} {x : os_E} (h : j ≠ m) : os_ad ev m x j = ev j := if_neg h
theorem os_Xok_ad {ep er : Nat → Int32} {ev : Nat → os_E} {m : Nat} {x : os_E} (hx : os_wf x) (h : os_Xok ep er ev m) : os_Xok (upd ep m (nI x.1)) (upd er m (nI x.2)) (os_ad ev m x) (m + 1) := by
  intro j hj
  by_cases q : j = m
  · subst q
    rw [pk_us, pk_us, os_ad_s]
    exact ⟨rfl, rfl, hx⟩
  · rw [pk_un q, pk_un q, os_ad_n q]
    exact h j (by omega)
theorem os_pd_ad {ev : Nat → os_E} {ac : Nat → Bool} {m : Nat} {x : os_E} (h : ac m = true) : os_pd (os_ad ev m x) ac (m + 1) = [x] ++ os_pd ev ac m := by
  have e : os_pd (os_ad ev m x) ac m = os_pd ev ac m := os_pd_congr (fun _ _ => rfl) (fun j hj _ => os_ad_n (by omega))
  show (if ac m = true then os_ad ev m x m :: os_pd (os_ad ev m x) ac m else os_pd (os_ad ev m x) ac m) = _
  rw [if_pos h, os_ad_s, e]
  rfl
theorem os_xstep {tg dl : Nat → Nat} {mk : Nat → Int32} {L0 : List os_E} {ev ev2 : Nat → os_E} {sa st : Nat → Int32} {i m e : Nat} {s : Int32} (h1 : i ≤ e) (h2 : e < m) (hmin : ∀ j, i ≤ j → j < m → (ev e).2 ≤ (ev j).2) (P : os_Pre tg dl mk L0 ev sa i (os_pd ev (os_ge i) m) st) (hev : ∀ j, j < m → ev2 j = os_sw ev i e j) (hs : s = os_ns st (ev e)) : os_Pre tg dl mk L0 ev2 (upd sa i s) (i + 1) (os_sn tg dl mk (ev e) s ++ os_pd (os_sw ev i e) (os_ge (i + 1)) m) (upd st (ev e).1 s) := by
  have e2 : ev2 i = ev e := (hev i (by omega)).trans os_sw_a
  have e3 : upd sa i s i = s := pk_us
  refine os_Pre_s.mpr ⟨os_pd ev (os_ge i) m, st, os_pd (os_sw ev i e) (os_ge (i + 1)) m, os_Pre_congr i _ _ (fun j hj => ⟨?_, ?_⟩) P, ?_, ?_, ?_, ?_, ?_⟩
  · rw [hev j (by omega), os_sw_n (by omega) (by omega)]
  · exact (pk_un (by omega)).symm
  · rw [e2]
    exact os_pd_sw h1 h2
  · rw [e2]
    intro x hx
    obtain ⟨j, j1, j2, rfl⟩ := os_pd_mem.mp hx
    exact hmin j (os_ge_i j2) j1
  · rw [e2, e3]
    exact hs
  · rw [e2, e3]
  · rw [e2, e3]
section
variable {post : SX → Prop} {ic ec hz : Int32} {rt rd rm ip ir ep er sa cs : Nat → Int32} {tg dl : Nat → Nat}
theorem os_x6 {L0 : List os_E} (R : os_Rul tg dl rt rd) (H : ∀ (m : Nat) (ep er sa cs : Nat → Int32) (ev : Nat → os_E) (st : Nat → Int32), m ≤ 96 → os_Xok ep er ev m → os_Pre tg dl rm L0 ev sa m [] st → post (ic, nI m, hz, rt, rd, rm, ip, ir, ep, er, sa, cs)) :
    ∀ (d i m : Nat) (ep er sa cs : Nat → Int32) (ev : Nat → os_E) (st : Nat → Int32), i + d = 96 → i ≤ m → os_Xok ep er ev m → (∀ p, p < 4 → cs p = st p) → os_Pre tg dl rm L0 ev sa i (os_pd ev (os_ge i) m) st → m = i + (os_pd ev (os_ge i) m).length → i + os_wt (os_pd ev (os_ge i) m) ≤ 96 → wX_simulate_6 post (d + 1) (nI i) ic (nI m) hz rt rd rm ip ir ep er sa cs := by
  intro d
  induction d with
  | zero =>
    intro i m ep er sa cs ev st hd him hx hcs P hlen hwt
    have g := os_wt_ge (L := os_pd ev (os_ge i) m)
    have e : i = m := by omega
    subst e
    rw [List.eq_nil_of_length_eq_zero (l := os_pd ev (os_ge i) i) (by omega)] at P
    exact br_t (nI_le (by omega) (by omega)) (H i ep er sa cs ev st (by omega) hx P)
  | succ d ih =>
    intro i m ep er sa cs ev st hd him hx hcs P hlen hwt
    have g := os_wt_ge (L := os_pd ev (os_ge i) m)
    by_cases hi : i < m
    · refine br_f (nI_ge hi (by omega)) (br_f (nI_ge (b := 96) (by omega) (by decide)) ?_)
      refine os_xbring (by omega) hi hx (fun e h1 h2 h3 => ?_)
      have hp := os_pd_sw (ev := ev) h1 h2
      have hw := os_wt_perm hp
      have hl := hp.length_eq
      have g2 := os_wt_ge (L := os_pd (os_sw ev i e) (os_ge (i + 1)) m)
      have x1 := os_Xok_sw hi h2 hx
      have ee : os_sw ev i e i = ev e := os_sw_a
      have ws := os_wt_sn (tg := tg) (dl := dl) (mk := rm) (e := ev e) (s := os_ns st (ev e))
      have we : os_wf (ev e) := (hx e h2).2.2
      rw [List.length_cons] at hl
      have hw' : os_wt (os_pd ev (os_ge i) m) = (ev e).2 % 4 + 1 + os_wt (os_pd (os_sw ev i e) (os_ge (i + 1)) m) := hw
      dsimp only
      refine os_xhandle (ev := os_sw ev i e) (st := st) (s := os_ns st (ev e)) (by omega) hi x1 R hcs (by rw [ee]) (by rw [ee]; intro z; omega) (fun hs => ?_) (fun x hs hm => ?_)
      · rw [ee] at hs
        have Q := os_xstep (s := os_ns st (ev e)) h1 h2 h3 P (ev2 := os_sw ev i e) (fun _ _ => rfl) rfl
        rw [hs] at Q
        dsimp only
        rw [ee]
        refine nm_r (nI_1 i) (ih (i + 1) m _ _ _ _ (os_sw ev i e) (upd st (ev e).1 (os_ns st (ev e))) (by omega) (by omega) x1 ?_ Q (by omega) (by omega))
        intro p h4
        by_cases q : p = (ev e).1
        · subst q
          rw [pk_us, pk_us]
        · rw [pk_un q, pk_un q]
          exact hcs p h4
      · rw [ee] at hs
        have Q := os_xstep (s := os_ns st (ev e)) h1 h2 h3 P (ev2 := os_ad (os_sw ev i e) m x) (fun j hj => os_ad_n (by omega)) rfl
        have hpd := os_pd_ad (ev := os_sw ev i e) (ac := os_ge (i + 1)) (m := m) (x := x) (os_ge_t (by omega))
        rw [hs] at Q ws
        have wx : os_wf x := os_sn_wf (tg := tg) (dl := dl) (mk := rm) (fun p => (R.1 p).1) (fun p => (R.1 p).2.2) we (hs ▸ List.mem_singleton.mpr rfl)
        rw [← hpd] at Q
        have wa := os_wt_app (L := [x]) (M := os_pd (os_sw ev i e) (os_ge (i + 1)) m)
        rw [← hpd] at wa
        have la : (os_pd (os_ad (os_sw ev i e) m x) (os_ge (i + 1)) (m + 1)).length = 1 + (os_pd (os_sw ev i e) (os_ge (i + 1)) m).length := by
          rw [hpd, List.length_append]
          rfl
        dsimp only
        rw [ee]
        refine nm_r (nI_1 i) (ih (i + 1) (m + 1) _ _ _ _ (os_ad (os_sw ev i e) m x) (upd st (ev e).1 (os_ns st (ev e))) (by omega) (by omega) (os_Xok_ad wx x1) ?_ Q (by omega) (by omega))
        intro p h4
        by_cases q : p = (ev e).1
        · subst q
          rw [pk_us, pk_us]
        · rw [pk_un q, pk_un q]
          exact hcs p h4
    · have e : i = m := by omega
      subst e
      rw [List.eq_nil_of_length_eq_zero (l := os_pd ev (os_ge i) i) (by omega)] at P
      exact br_t (nI_le (by omega) (by omega)) (H i ep er sa cs ev st (by omega) hx P)
theorem os_xsim {n : Nat} {iv : Nat → os_E} (hn : n ≤ 24) (hi : os_Xok ip ir iv n) (R : os_Rul tg dl rt rd) (H : ∀ (m : Nat) (ep er sa cs : Nat → Int32) (ev : Nat → os_E) (st : Nat → Int32), m ≤ 96 → os_Xok ep er ev m → os_Pre tg dl rm (os_pd iv (fun _ => true) n) ev sa m [] st → post (nI n, nI m, hz, rt, rd, rm, ip, ir, ep, er, sa, cs)) : wpX_simulate post (nI n, ec, hz, rt, rd, rm, ip, ir, ep, er, sa, cs) := by
  unfold wpX_simulate
  refine os_xstart hn (fun ep' er' cs' h1 h2 => ?_)
  have e0 : os_pd iv (os_ge 0) n = os_pd iv (fun _ => true) n := os_pd_congr (fun j _ => os_ge_t (Nat.zero_le j)) (fun _ _ _ => rfl)
  have l0 : (os_pd iv (fun _ => true) n).length = n := os_pd_len (fun _ _ => rfl)
  have w0 := os_wt_le (L := os_pd iv (fun _ => true) n)
  refine ⟨97, os_x6 (L0 := os_pd iv (fun _ => true) n) R H 96 0 n ep' er' sa cs' iv (fun _ => 0) rfl (by omega) ?_ h2 ?_ ?_ ?_⟩
  · intro j hj
    rw [(h1 j hj).1, (h1 j hj).2]
    exact hi j hj
  · rw [e0]
    exact ⟨List.Perm.refl _, rfl⟩
  · rw [e0]
    omega
  · rw [e0]
    omega
end
end
section
theorem os_b0 : vp_nar .boolean 0 = 0 := rfl
theorem os_b1 : vp_nar .boolean 1 = 1 := rfl
def os_Yok (ti pr va li : Nat → Int32) (ev : Nat → os_E) (m : Nat) : Prop := ∀ j, j < m → pr j = nI (ev j).1 ∧ ti j = nI ((ev j).2 / 64) ∧ va j = nI ((ev j).2 / 4 % 16) ∧ li j = nI ((ev j).2 % 4) ∧ os_wf (ev j)
theorem os_lex {a b : Nat} : (a / 64 = b / 64 → a / 4 % 16 = b / 4 % 16 → (b % 4 ≤ a % 4 ↔ ¬ a < b)) ∧ (a / 64 = b / 64 → a / 4 % 16 ≠ b / 4 % 16 → (b / 4 % 16 ≤ a / 4 % 16 ↔ ¬ a < b)) ∧ (a / 64 ≠ b / 64 → (b / 64 ≤ a / 64 ↔ ¬ a < b)) := by
  refine ⟨fun h1 h2 => ?_, fun h1 h2 => ?_, fun h1 => ?_⟩
  · omega
  · omega
  · omega
section
variable {inj hor la cnt : Int32} {tgs dls mks ti pr va li dn sts hbs : Nat → Int32} {tg dl : Nat → Nat}
theorem os_ybefore {post : Int32 → Prop} {ev : Nat → os_E} {i j m : Nat} (hm : m ≤ 96) (hi : i < m) (hj : j < m) (hy : os_Yok ti pr va li ev m) (H1 : (ev i).2 < (ev j).2 → post 1) (H0 : ¬ (ev i).2 < (ev j).2 → post 0) : wpY_before post (inj, hor, cnt, la, tgs, dls, mks, ti, pr, va, li, dn, sts, hbs) (nI i) (nI j) := by
  have ci : (nI i).toNatClampNeg = i := nI_clamp (by omega)
  have cj : (nI j).toNatClampNeg = j := nI_clamp (by omega)
  have vi : vp_in (nI i) 96 := vp_in_nI (by omega) (by decide)
  have vj : vp_in (nI j) 96 := vp_in_nI (by omega) (by decide)
  obtain ⟨_, t1, v1, l1, w1⟩ := hy i hi
  obtain ⟨_, t2, v2, l2, w2⟩ := hy j hj
  have b1 := os_x_r w1
  have b2 := os_x_r w2
  obtain ⟨x1, x2, x3⟩ := os_lex (a := (ev i).2) (b := (ev j).2)
  unfold wpY_before
  dsimp only
  rw [ci, cj]
  refine ⟨vi, vj, pk_eq ((ev i).2 / 64) ((ev j).2 / 64) (fun z => ⟨vi, vj, pk_eq ((ev i).2 / 4 % 16) ((ev j).2 / 4 % 16) (fun y => ⟨vi, vj, pk_le ((ev j).2 % 4) ((ev i).2 % 4) (fun w => H0 ((x1 z y).mp w)) (fun w => H1 ?_) l2 l1⟩) (fun y => ⟨vi, vj, pk_le ((ev j).2 / 4 % 16) ((ev i).2 / 4 % 16) (fun w => H0 ((x2 z y).mp w)) (fun w => H1 ?_) v2 v1⟩) v1 v2⟩) (fun z => ⟨vi, vj, pk_le ((ev j).2 / 64) ((ev i).2 / 64) (fun w => H0 ((x3 z).mp w)) (fun w => H1 ?_) t2 t1⟩) t1 t2⟩
  · have := x1 z y
    omega
  · have := x2 z y
    omega
  · have := x3 z
    omega
theorem os_yn {post : Int32 → Prop} {ev : Nat → os_E} {m : Nat} (hm : m ≤ 96) (hy : os_Yok ti pr va li ev m) (H0 : (∀ j, j < m → ¬ dn j = 0) → post (-1)) (H1 : ∀ b, b < m → dn b = 0 → (∀ j, j < m → dn j = 0 → (ev b).2 ≤ (ev j).2) → post (nI b)) : ∀ (d k : Nat) (x : Int32), k + d = m → ((x = -1 ∧ ∀ j, j < k → ¬ dn j = 0) ∨ ∃ b, b < k ∧ x = nI b ∧ dn b = 0 ∧ ∀ j, j < k → dn j = 0 → (ev b).2 ≤ (ev j).2) → wY_next_4 post inj hor (nI m) la tgs dls mks ti pr va li dn sts hbs (d + 1) x (nI k) := by
  intro d
  induction d with
  | zero =>
    intro k x hk h
    refine br_t (nI_le (by omega) (by omega)) ?_
    rcases h with ⟨rfl, h⟩ | ⟨b, hb, rfl, h1, h2⟩
    · exact H0 (fun j hj => h j (by omega))
    · exact H1 b (by omega) h1 (fun j hj => h2 j (by omega))
  | succ d ih =>
    intro k x hk h
    have ck : (nI k).toNatClampNeg = k := nI_clamp (by omega)
    refine br_f (nI_ge (by omega) (by omega)) ⟨vp_in_nI (by omega) (by decide), ?_⟩
    rw [ck]
    refine br_c (fun z => ?_) (fun z => nm_r (nI_1 k) (ih (k + 1) x (by omega) ?_))
    · rcases h with ⟨rfl, h⟩ | ⟨b, hb, rfl, h1, h2⟩
      · refine br_t (by decide) (nm_r (nI_1 k) (ih (k + 1) (nI k) (by omega) (Or.inr ⟨k, by omega, rfl, z, ?_⟩)))
        intro j hj hz
        by_cases q : j = k
        · subst q
          exact Nat.le_refl _
        · exact absurd hz (h j (by omega))
      · refine br_f (nI_pos (by omega)) (os_ybefore hm (by omega) (by omega) hy (fun w => br_f (by decide) (nm_r (nI_1 k) (ih (k + 1) (nI k) (by omega) (Or.inr ⟨k, by omega, rfl, z, ?_⟩)))) (fun w => br_t (by decide) (nm_r (nI_1 k) (ih (k + 1) (nI b) (by omega) (Or.inr ⟨b, by omega, rfl, h1, ?_⟩)))))
        · intro j hj hz
          by_cases q : j = k
          · subst q
            exact Nat.le_refl _
          · have := h2 j (by omega) hz
            omega
        · intro j hj hz
          by_cases q : j = k
          · subst q
            omega
          · exact h2 j (by omega) hz
    · rcases h with ⟨rfl, h⟩ | ⟨b, hb, rfl, h1, h2⟩
      · refine Or.inl ⟨rfl, fun j hj => ?_⟩
        by_cases q : j = k
        · subst q
          exact z
        · exact h j (by omega)
      · refine Or.inr ⟨b, by omega, rfl, h1, fun j hj hz => ?_⟩
        by_cases q : j = k
        · subst q
          exact absurd hz z
        · exact h2 j (by omega) hz
theorem os_ynext {post : Int32 → Prop} {ev : Nat → os_E} {m : Nat} (hm : m ≤ 96) (hy : os_Yok ti pr va li ev m) (H0 : (∀ j, j < m → ¬ dn j = 0) → post (-1)) (H1 : ∀ b, b < m → dn b = 0 → (∀ j, j < m → dn j = 0 → (ev b).2 ≤ (ev j).2) → post (nI b)) : wpY_next post (inj, hor, nI m, la, tgs, dls, mks, ti, pr, va, li, dn, sts, hbs) := by
  unfold wpY_next
  exact ⟨m + 1, os_yn hm hy H0 H1 m 0 (-1) (by omega) (Or.inl ⟨rfl, fun j hj => absurd hj (by omega)⟩)⟩
theorem os_yput {post : SY → Prop} {m : Nat} {p t v l : Int32} (hm : m < 96) (H : post (inj, hor, nI (m + 1), la, tgs, dls, mks, upd ti m t, upd pr m p, upd va m v, upd li m l, upd dn m 0, sts, hbs)) : wpY_put post (inj, hor, nI m, la, tgs, dls, mks, ti, pr, va, li, dn, sts, hbs) p t v l := by
  have cm : (nI m).toNatClampNeg = m := nI_clamp (by omega)
  have vm : vp_in (nI m) 96 := vp_in_nI hm (by decide)
  unfold wpY_put
  dsimp only
  rw [cm, os_b0]
  exact br_f (nI_ge (b := 96) hm (by decide)) ⟨vm, nm_e ⟨vm, nm_e ⟨vm, nm_e ⟨vm, nm_e ⟨vm, nm_e (nm_r (nI_1 m) H)⟩⟩⟩⟩⟩
theorem os_yhandle {post : SY → Prop} {ev : Nat → os_E} {st hb : Nat → Int32} {i m : Nat} {s : Int32} (hm : m ≤ 96) (him : i < m) (hy : os_Yok ti pr va li ev m) (R : os_Rul tg dl tgs dls) (hst : ∀ p, p < 4 → sts p = st p ∧ hbs p = hb p) (hs : s = os_ns st (ev i)) (hroom : 0 < (ev i).2 % 4 → m < 96)
    (H0 : os_sn tg dl mks (ev i) s = [] → post (inj, hor, nI m, nI ((ev i).2 / 64), tgs, dls, mks, ti, pr, va, li, upd dn i 1, upd sts (ev i).1 s, upd hbs (ev i).1 (hb (ev i).1 + 1)))
    (H1 : ∀ x : os_E, os_sn tg dl mks (ev i) s = [x] → m < 96 → post (inj, hor, nI (m + 1), nI ((ev i).2 / 64), tgs, dls, mks, upd ti m (nI (x.2 / 64)), upd pr m (nI x.1), upd va m (nI (x.2 / 4 % 16)), upd li m (nI (x.2 % 4)), upd (upd dn i 1) m 0, upd sts (ev i).1 s, upd hbs (ev i).1 (hb (ev i).1 + 1))) : wpY_handle post (inj, hor, nI m, la, tgs, dls, mks, ti, pr, va, li, dn, sts, hbs) (nI i) := by
  have ci : (nI i).toNatClampNeg = i := nI_clamp (by omega)
  obtain ⟨h1, h2, h3, h4, h5⟩ := hy i him
  have b := os_x_r h5
  have cp : (nI (ev i).1).toNatClampNeg = (ev i).1 := nI_clamp (by have := h5.1; omega)
  have vi : vp_in (nI i) 96 := vp_in_nI (by omega) (by decide)
  have vp : vp_in (nI (ev i).1) 4 := vp_in_nI h5.1 (by decide)
  unfold wpY_handle
  dsimp only
  rw [ci, os_b1]
  refine ⟨vi, nm_r h1 ⟨vi, nm_e ⟨vp, ?_⟩⟩⟩
  rw [cp]
  refine ⟨vi, vp, nm_r (e' := upd sts (ev i).1 s) (by rw [h3, (hst _ h5.1).1, hs]; rfl) ⟨vp, vp, nm_r (e' := upd hbs (ev i).1 (hb (ev i).1 + 1)) (by rw [(hst _ h5.1).2]) ⟨vi, nm_r h2 ⟨vi, ?_⟩⟩⟩⟩
  rw [pk_us]
  refine pk_le ((ev i).2 % 4) 0 (fun z => H0 (os_sn_nil (by omega))) (fun z => ⟨vp, vp, br_c (fun y => ⟨vp, vi, vp, vp, vi, ?_⟩) (fun y => H0 (os_sn_nil (fun q => y q.2)))⟩) h4
  obtain ⟨l, hl⟩ : ∃ l, (ev i).2 % 4 = l + 1 := ⟨(ev i).2 % 4 - 1, by omega⟩
  have d9 := (R.1 (ev i).1).2.2
  have w16 := (os_vw_e s).2
  have K := H1 _ (os_sn_one ⟨z, y⟩) (hroom z)
  dsimp only at K
  have k1 : (((ev i).2 / 64 + dl (ev i).1) * 64 + os_vw s * 4 + ((ev i).2 % 4 - 1)) / 64 = (ev i).2 / 64 + dl (ev i).1 := by omega
  have k2 : (((ev i).2 / 64 + dl (ev i).1) * 64 + os_vw s * 4 + ((ev i).2 % 4 - 1)) / 4 % 16 = os_vw s := by omega
  have k3 : (((ev i).2 / 64 + dl (ev i).1) * 64 + os_vw s * 4 + ((ev i).2 % 4 - 1)) % 4 = l := by omega
  rw [k1, k2, k3] at K
  rw [(R.2 _ h5.1).1, h2, (R.2 _ h5.1).2, nI_add, (os_vw_e s).1, h4, hl, nI_pred]
  exact os_yput (hroom z) K
end
end
section
def os_dn (dn : Nat → Int32) : Nat → Bool := fun j => decide (dn j = 0)
theorem os_dn_t {dn : Nat → Int32} {j : Nat} (h : dn j = 0) : os_dn dn j = true := decide_eq_true h
theorem os_dn_f {dn : Nat → Int32} {j : Nat} (h : ¬ dn j = 0) : os_dn dn j = false := decide_eq_false h
theorem os_dn_i {dn : Nat → Int32} {j : Nat} (h : os_dn dn j = true) : dn j = 0 := of_decide_eq_true h
theorem os_Yok_ad {ti pr va li : Nat → Int32} {ev : Nat → os_E} {m : Nat} {x : os_E} (hx : os_wf x) (h : os_Yok ti pr va li ev m) : os_Yok (upd ti m (nI (x.2 / 64))) (upd pr m (nI x.1)) (upd va m (nI (x.2 / 4 % 16))) (upd li m (nI (x.2 % 4))) (os_ad ev m x) (m + 1) := by
  intro j hj
  by_cases q : j = m
  · subst q
    rw [pk_us, pk_us, pk_us, pk_us, os_ad_s]
    exact ⟨rfl, rfl, rfl, rfl, hx⟩
  · rw [pk_un q, pk_un q, pk_un q, pk_un q, os_ad_n q]
    exact h j (by omega)
section
variable {post : SY → Prop} {inj hor la cnt : Int32} {tgs dls mks ti pr va li dn sts hbs : Nat → Int32} {tg dl : Nat → Nat}
theorem os_y63 {L0 : List os_E} {n T : Nat} {iv : Nat → os_E} {x1 : Int32} (R : os_Rul tg dl tgs dls) (hT : ∀ a, a < 8192 → (x1 < nI a ↔ T ≤ a))
    (H : ∀ (cnt la : Int32) (ti pr va li dn sts hbs st hb : Nat → Int32) (q : Nat), os_Yok ti pr va li iv n → (∀ p, p < 4 → sts p = st p ∧ hbs p = hb p) → os_Res tg dl mks T q L0 os_c0 (st, hb, la) → post (inj, hor, cnt, la, tgs, dls, mks, ti, pr, va, li, dn, sts, hbs)) :
    ∀ (d k m q : Nat) (la : Int32) (ti pr va li dn sts hbs st hb : Nat → Int32) (ev : Nat → os_E), k + d = 96 → os_Yok ti pr va li ev m → n ≤ m → (∀ j, j < n → ev j = iv j) → (∀ p, p < 4 → sts p = st p ∧ hbs p = hb p) → m = q + (os_pd ev (os_dn dn) m).length → q + os_wt (os_pd ev (os_dn dn) m) ≤ 96 → (∀ r o, os_Res tg dl mks T r (os_pd ev (os_dn dn) m) (st, hb, la) o → os_Res tg dl mks T (r + q) L0 os_c0 o) → (q = k ∨ ∀ x, x ∈ os_pd ev (os_dn dn) m → T ≤ x.2 / 64) →
      wY_simulate_63 post x1 (d + 1) (nI k) inj hor (nI m) la tgs dls mks ti pr va li dn sts hbs := by
  intro d
  induction d with
  | zero =>
    intro k m q la ti pr va li dn sts hbs st hb ev hk hy hnm hiv hst hlen hwt hres hor'
    have g := os_wt_ge (L := os_pd ev (os_dn dn) m)
    refine br_t (nI_le (a := 96) (by omega) (by omega)) (H _ _ _ _ _ _ _ _ _ st hb (0 + q) ?_ hst (hres 0 _ (os_Res_0.mpr ⟨?_, rfl⟩)))
    · intro j hj
      rw [← hiv j hj]
      exact hy j (by omega)
    · rcases hor' with e | h
      · rw [List.eq_nil_of_length_eq_zero (l := os_pd ev (os_dn dn) m) (by omega)]
        intro x hx
        exact absurd hx List.not_mem_nil
      · exact h
  | succ d ih =>
    intro k m q la ti pr va li dn sts hbs st hb ev hk hy hnm hiv hst hlen hwt hres hor'
    have g := os_wt_ge (L := os_pd ev (os_dn dn) m)
    refine br_f (nI_ge (b := 96) (by omega) (by decide)) (os_ynext (by omega) hy (fun h0 => ?_) (fun b hb' hz hmin => ?_))
    · refine br_t (by decide) (nm_r (nI_1 k) (ih (k + 1) m q la ti pr va li dn sts hbs st hb ev (by omega) hy hnm hiv hst hlen hwt hres (Or.inr ?_)))
      intro x hx
      obtain ⟨j, j1, j2, rfl⟩ := os_pd_mem.mp hx
      exact absurd (os_dn_i j2) (h0 j j1)
    · have cb : (nI b).toNatClampNeg = b := nI_clamp (by omega)
      obtain ⟨_, t1, _, _, w1⟩ := hy b hb'
      have hw1 := os_x_r w1
      have hbL : ev b ∈ os_pd ev (os_dn dn) m := os_pd_mem.mpr ⟨b, hb', os_dn_t hz, rfl⟩
      refine br_f (nI_pos (by omega)) ⟨vp_in_nI (by omega) (by decide), ?_⟩
      rw [cb, t1]
      have hmL : ∀ x, x ∈ os_pd ev (os_dn dn) m → (ev b).2 ≤ x.2 := by
        intro x hx
        obtain ⟨j, j1, j2, rfl⟩ := os_pd_mem.mp hx
        exact hmin j j1 (os_dn_i j2)
      refine br_c (fun z => ?_) (fun z => ?_)
      · refine nm_r (nI_1 k) (ih (k + 1) m q la ti pr va li dn sts hbs st hb ev (by omega) hy hnm hiv hst hlen hwt hres (Or.inr ?_))
        intro x hx
        have a1 := (hT _ (by omega)).mp z
        have a2 := hmL x hx
        omega
      · have zT : (ev b).2 / 64 < T := by
          have a1 : ¬ T ≤ (ev b).2 / 64 := fun a => z ((hT _ (by omega)).mpr a)
          omega
        have qk : q = k := by
          rcases hor' with e | h
          · exact e
          · have := h _ hbL
            omega
        have hp := os_pd_rm (ev := ev) (ac := os_dn dn) b hb' (os_dn_t hz)
        have hw : os_wt (os_pd ev (os_dn dn) m) = (ev b).2 % 4 + 1 + os_wt (os_pd ev (os_rm (os_dn dn) b) m) := os_wt_perm hp
        have hl := hp.length_eq
        rw [List.length_cons] at hl
        have g2 := os_wt_ge (L := os_pd ev (os_rm (os_dn dn) b) m)
        have ws := os_wt_sn (tg := tg) (dl := dl) (mk := mks) (e := ev b) (s := os_ns st (ev b))
        have hst' : ∀ p, p < 4 → upd sts (ev b).1 (os_ns st (ev b)) p = upd st (ev b).1 (os_ns st (ev b)) p ∧ upd hbs (ev b).1 (hb (ev b).1 + 1) p = upd hb (ev b).1 (hb (ev b).1 + 1) p := by
          intro p hp4
          by_cases e : p = (ev b).1
          · subst e
            rw [pk_us, pk_us, pk_us, pk_us]
            exact ⟨rfl, rfl⟩
          · rw [pk_un e, pk_un e, pk_un e, pk_un e]
            exact hst p hp4
        have hres' : ∀ r o, os_Res tg dl mks T r (os_sn tg dl mks (ev b) (os_ns st (ev b)) ++ os_pd ev (os_rm (os_dn dn) b) m) (upd st (ev b).1 (os_ns st (ev b)), upd hb (ev b).1 (hb (ev b).1 + 1), nI ((ev b).2 / 64)) o → os_Res tg dl mks T (r + (q + 1)) L0 os_c0 o := by
          intro r o hr
          have e : r + (q + 1) = (r + 1) + q := by omega
          rw [e]
          exact hres (r + 1) o (os_Res_s.mpr ⟨ev b, _, hp, hmL, zT, hr⟩)
        refine os_yhandle (ev := ev) (st := st) (hb := hb) (s := os_ns st (ev b)) (by omega) hb' hy R hst rfl (by omega) (fun hs => ?_) (fun x hs hm => ?_)
        · have e1 : os_pd ev (os_dn (upd dn b 1)) m = os_pd ev (os_rm (os_dn dn) b) m := by
            refine os_pd_congr (fun j hj => ?_) (fun _ _ _ => rfl)
            by_cases e : j = b
            · subst e
              rw [os_rm_s]
              exact os_dn_f (by rw [pk_us]; decide)
            · rw [os_rm_n e]
              unfold os_dn
              rw [pk_un e]
          rw [hs] at hres'
          rw [← e1] at hres' hw hl
          exact nm_r (nI_1 k) (ih (k + 1) m (q + 1) _ _ _ _ _ _ _ _ _ _ ev (by omega) hy hnm hiv hst' (by omega) (by omega) hres' (Or.inl (by omega)))
        · have wx : os_wf x := os_sn_wf (tg := tg) (dl := dl) (mk := mks) (fun p => (R.1 p).1) (fun p => (R.1 p).2.2) w1 (hs ▸ List.mem_singleton.mpr rfl)
          have e1 : os_pd (os_ad ev m x) (os_dn (upd (upd dn b 1) m 0)) (m + 1) = [x] ++ os_pd ev (os_rm (os_dn dn) b) m := by
            rw [os_pd_ad (os_dn_t pk_us)]
            refine congrArg ([x] ++ ·) (os_pd_congr (fun j hj => ?_) (fun _ _ _ => rfl))
            have q1 : j ≠ m := by omega
            by_cases e : j = b
            · subst e
              rw [os_rm_s]
              exact os_dn_f (by rw [pk_un q1, pk_us]; decide)
            · rw [os_rm_n e]
              unfold os_dn
              rw [pk_un q1, pk_un e]
          rw [hs] at hres' ws
          have wa := os_wt_app (L := [x]) (M := os_pd ev (os_rm (os_dn dn) b) m)
          have lb : ([x] ++ os_pd ev (os_rm (os_dn dn) b) m).length = 1 + (os_pd ev (os_rm (os_dn dn) b) m).length := by
            rw [List.length_append]
            rfl
          rw [← e1] at hres' wa lb
          exact nm_r (nI_1 k) (ih (k + 1) (m + 1) (q + 1) _ _ _ _ _ _ _ _ _ _ (os_ad ev m x) (by omega) (os_Yok_ad wx hy) (by omega) (fun j hj => (os_ad_n (by omega)).trans (hiv j hj)) hst' (by omega) (by omega) hres' (Or.inl (by omega)))
theorem os_y36 {x1 : Int32} {fc : Int32} (H : ∀ sts hbs : Nat → Int32, (∀ p, p < 4 → sts p = 0 ∧ hbs p = 0) → ∃ n63 : Nat, wY_simulate_63 post x1 n63 0 inj hor fc la tgs dls mks ti pr va li dn sts hbs) : ∀ (d i : Nat) (sts hbs : Nat → Int32), i + d = 4 → (∀ p, p < i → sts p = 0 ∧ hbs p = 0) → wY_simulate_36 post x1 inj hor fc la (d + 1) (nI i) tgs dls mks ti pr va li dn sts hbs := by
  intro d
  induction d with
  | zero =>
    intro i sts hbs hi h
    exact br_t (nI_le (a := 4) (by omega) (by omega)) (H sts hbs (fun p hp => h p (by omega)))
  | succ d ih =>
    intro i sts hbs hi h
    have hc : (nI i).toNatClampNeg = i := nI_clamp (by omega)
    have v4 : vp_in (nI i) 4 := vp_in_nI (by omega) (by decide)
    refine br_f (nI_ge (b := 4) (by omega) (by decide)) ⟨v4, nm_e ⟨v4, nm_e (nm_r (nI_1 i) (ih (i + 1) _ _ (by omega) ?_))⟩⟩
    intro j hj
    rw [hc]
    by_cases e : j = i
    · subst e
      exact ⟨pk_us, pk_us⟩
    · rw [pk_un e, pk_un e]
      exact h j (by omega)
theorem os_y15 {x1 : Int32} {fc : Int32} (H : ∀ dn sts hbs : Nat → Int32, (∀ j, j < 96 → dn j = 0) → (∀ p, p < 4 → sts p = 0 ∧ hbs p = 0) → ∃ n63 : Nat, wY_simulate_63 post x1 n63 0 inj hor fc la tgs dls mks ti pr va li dn sts hbs) : ∀ (d i : Nat) (dn : Nat → Int32), i + d = 96 → (∀ j, j < i → dn j = 0) → wY_simulate_15 post x1 inj hor fc la (d + 1) (nI i) tgs dls mks ti pr va li dn sts hbs := by
  intro d
  induction d with
  | zero =>
    intro i dn hi h
    exact br_t (nI_le (a := 96) (by omega) (by omega)) ⟨5, os_y36 (fun sts hbs h2 => H dn sts hbs (fun j hj => h j (by omega)) h2) 4 0 sts hbs (by omega) (fun p hp => absurd hp (by omega))⟩
  | succ d ih =>
    intro i dn hi h
    have hc : (nI i).toNatClampNeg = i := nI_clamp (by omega)
    refine br_f (nI_ge (b := 96) (by omega) (by decide)) ⟨vp_in_nI (by omega) (by decide), nm_e (nm_r (nI_1 i) (ih (i + 1) _ (by omega) ?_))⟩
    intro j hj
    rw [hc, os_b0]
    by_cases e : j = i
    · subst e
      exact pk_us
    · rw [pk_un e]
      exact h j (by omega)
theorem os_ysim {n T : Nat} {iv : Nat → os_E} {x1 : Int32} (hn : n ≤ 24) (hy : os_Yok ti pr va li iv n) (R : os_Rul tg dl tgs dls) (hT : ∀ a, a < 8192 → (x1 < nI a ↔ T ≤ a))
    (H : ∀ (cnt la : Int32) (ti pr va li dn sts hbs st hb : Nat → Int32) (q : Nat), os_Yok ti pr va li iv n → (∀ p, p < 4 → sts p = st p ∧ hbs p = hb p) → os_Res tg dl mks T q (os_pd iv (fun _ => true) n) os_c0 (st, hb, la) → post (nI n, hor, cnt, la, tgs, dls, mks, ti, pr, va, li, dn, sts, hbs)) : wpY_simulate post (nI n, hor, cnt, la, tgs, dls, mks, ti, pr, va, li, dn, sts, hbs) x1 := by
  unfold wpY_simulate
  refine ⟨97, os_y15 (fun dn sts hbs h1 h2 => ⟨97, ?_⟩) 96 0 dn (by omega) (fun j hj => absurd hj (by omega))⟩
  have e0 : os_pd iv (os_dn dn) n = os_pd iv (fun _ => true) n := os_pd_congr (fun j hj => os_dn_t (h1 j (by omega))) (fun _ _ _ => rfl)
  have l0 : (os_pd iv (fun _ => true) n).length = n := os_pd_len (fun _ _ => rfl)
  have w0 := os_wt_le (L := os_pd iv (fun _ => true) n)
  refine os_y63 (L0 := os_pd iv (fun _ => true) n) (iv := iv) (n := n) R hT H 96 0 n 0 (-1) ti pr va li dn sts hbs (fun _ => 0) (fun _ => 0) iv rfl hy (by omega) (fun _ _ => rfl) h2 ?_ ?_ ?_ (Or.inl rfl)
  · rw [e0]
    omega
  · rw [e0]
    omega
  · rw [e0]
    exact fun r o h => h
end
end
section
theorem os_Fi1_t {T k p : Nat} {ev : Nat → os_E} {sa : Nat → Int32} (h : (ev k).2 / 64 < T) (hp : (ev k).1 = p) : (os_Fi T ev sa (k + 1)).1 p = sa k ∧ (os_Fi T ev sa (k + 1)).2.1 p = (os_Fi T ev sa k).2.1 p + 1 := by
  rw [os_Fi_t h, hp]
  exact ⟨pk_us, pk_us⟩
theorem os_Fi1_f {T k p : Nat} {ev : Nat → os_E} {sa : Nat → Int32} (h : ¬ (ev k).2 / 64 < T ∨ (ev k).1 ≠ p) : (os_Fi T ev sa (k + 1)).1 p = (os_Fi T ev sa k).1 p ∧ (os_Fi T ev sa (k + 1)).2.1 p = (os_Fi T ev sa k).2.1 p := by
  by_cases q : (ev k).2 / 64 < T
  · have hp : p ≠ (ev k).1 := by
      rcases h with h | h
      · exact absurd q h
      · exact Ne.symm h
    rw [os_Fi_t q]
    exact ⟨pk_un hp, pk_un hp⟩
  · rw [os_Fi_f q]
    exact ⟨rfl, rfl⟩
section
variable {post : Int32 → Prop} {ic hz x : Int32} {rt rd rm ip ir ep er sa cs : Nat → Int32} {ev : Nat → os_E} {m T : Nat}
theorem os_xst {p : Nat} (hm : m ≤ 96) (hp : p < 4) (hx : os_Xok ep er ev m) (hT : ∀ a, a < 8192 → (x < nI a ↔ T ≤ a)) (H : post ((os_Fi T ev sa m).1 p)) : ∀ d k : Nat, k + d = m → wX_state_22 post (nI p) x ic (nI m) hz rt rd rm ip ir ep er sa cs (d + 1) ((os_Fi T ev sa k).1 p) (nI k) := by
  intro d
  induction d with
  | zero =>
    intro k hk
    have e : k = m := by omega
    subst e
    exact br_t (nI_le (by omega) (by omega)) H
  | succ d ih =>
    intro k hk
    have ck : (nI k).toNatClampNeg = k := nI_clamp (by omega)
    have vk : vp_in (nI k) 96 := vp_in_nI (by omega) (by decide)
    obtain ⟨h1, h2, h3⟩ := hx k (by omega)
    have b := os_x_r h3
    have p4 := h3.1
    have I := ih (k + 1) (by omega)
    refine br_f (nI_ge (by omega) (by omega)) ⟨vk, ?_⟩
    rw [ck]
    refine pk_eq (ev k).1 p (fun z => ⟨vk, ?_⟩) (fun z => ?_) h1
    · unfold wpX_timeOf
      rw [h2, os_tmu (by omega)]
      refine br_c (fun w => ?_) (fun w => ⟨vk, nm_e ?_⟩)
      · have w' := (hT _ (by omega)).mp w
        rw [(os_Fi1_f (Or.inl (by omega))).1] at I
        exact nm_r (nI_1 k) I
      · have w' : ¬ T ≤ (ev k).2 / 64 := fun a => w ((hT _ (by omega)).mpr a)
        rw [(os_Fi1_t (by omega) z).1] at I
        exact nm_r (nI_1 k) I
    · rw [(os_Fi1_f (Or.inr z)).1] at I
      exact nm_r (nI_1 k) I
theorem os_xha {p : Nat} (hm : m ≤ 96) (hp : p < 4) (hx : os_Xok ep er ev m) (hT : ∀ a, a < 8192 → (x < nI a ↔ T ≤ a)) (H : post ((os_Fi T ev sa m).2.1 p)) : ∀ d k : Nat, k + d = m → wX_handled_25 post (nI p) x ic (nI m) hz rt rd rm ip ir ep er sa cs (d + 1) ((os_Fi T ev sa k).2.1 p) (nI k) := by
  intro d
  induction d with
  | zero =>
    intro k hk
    have e : k = m := by omega
    subst e
    exact br_t (nI_le (by omega) (by omega)) H
  | succ d ih =>
    intro k hk
    have ck : (nI k).toNatClampNeg = k := nI_clamp (by omega)
    have vk : vp_in (nI k) 96 := vp_in_nI (by omega) (by decide)
    obtain ⟨h1, h2, h3⟩ := hx k (by omega)
    have b := os_x_r h3
    have p4 := h3.1
    have I := ih (k + 1) (by omega)
    refine br_f (nI_ge (by omega) (by omega)) ⟨vk, ?_⟩
    rw [ck]
    refine pk_eq (ev k).1 p (fun z => ⟨vk, ?_⟩) (fun z => ?_) h1
    · unfold wpX_timeOf
      rw [h2, os_tmu (by omega)]
      refine br_c (fun w => ?_) (fun w => nm_e ?_)
      · have w' := (hT _ (by omega)).mp w
        rw [(os_Fi1_f (Or.inl (by omega))).2] at I
        exact nm_r (nI_1 k) I
      · have w' : ¬ T ≤ (ev k).2 / 64 := fun a => w ((hT _ (by omega)).mpr a)
        rw [(os_Fi1_t (by omega) z).2] at I
        exact nm_r (nI_1 k) I
    · rw [(os_Fi1_f (Or.inr z)).2] at I
      exact nm_r (nI_1 k) I
theorem os_xco (hm : m ≤ 96) (hx : os_Xok ep er ev m) (hT : ∀ a, a < 8192 → (x < nI a ↔ T ≤ a)) (H : post (os_sum (os_Fi T ev sa m))) : ∀ d k : Nat, k + d = m → wX_countEventsUpTo_4 post x ic (nI m) hz rt rd rm ip ir ep er sa cs (d + 1) (os_sum (os_Fi T ev sa k)) (nI k) := by
  intro d
  induction d with
  | zero =>
    intro k hk
    have e : k = m := by omega
    subst e
    exact br_t (nI_le (by omega) (by omega)) H
  | succ d ih =>
    intro k hk
    have ck : (nI k).toNatClampNeg = k := nI_clamp (by omega)
    have vk : vp_in (nI k) 96 := vp_in_nI (by omega) (by decide)
    obtain ⟨h1, h2, h3⟩ := hx k (by omega)
    have b := os_x_r h3
    have I := ih (k + 1) (by omega)
    refine br_f (nI_ge (by omega) (by omega)) ⟨vk, ?_⟩
    rw [ck]
    unfold wpX_timeOf
    rw [h2, os_tmu (by omega)]
    refine br_c (fun w => ?_) (fun w => nm_e ?_)
    · have w' := (hT _ (by omega)).mp w
      rw [os_Fi_f (by omega)] at I
      exact nm_r (nI_1 k) I
    · have w' : ¬ T ≤ (ev k).2 / 64 := fun a => w ((hT _ (by omega)).mpr a)
      rw [os_sum_t (by omega) h3.1] at I
      exact nm_r (nI_1 k) I
end
theorem os_T {x : Int32} (h : -1 ≤ x.toInt) : ∃ T : Nat, ∀ a, a < 8192 → (x < nI a ↔ T ≤ a) :=
  ⟨(x.toInt + 1).toNat, fun a ha => by rw [Int32.lt_iff_toInt_lt, nI_toInt (by omega)]; omega⟩
theorem os_T200 : ∀ a, a < 8192 → ((200 : Int32) < nI a ↔ 201 ≤ a) := by
  intro a ha
  have h := nI_ltI (a := 200) (b := a) (by decide) (by omega)
  exact h.trans (by omega)
def os_Pr (p : Int32) : Prop := ∃ j : Nat, j < 4 ∧ p = nI j
theorem os_isP_t {post : Int32 → Prop} {j : Nat} (h : j < 4) (H : post 1) : wpX_isProcess post (nI j) :=
  br_f (nI_pos (by omega)) (br_f (nI_ge (b := 4) h (by decide)) H)
theorem os_isP_f {post : Int32 → Prop} {p : Int32} (h : ¬ os_Pr p) (H : post 0) : wpX_isProcess post p := by
  refine br_c (fun _ => H) (fun a => br_c (fun _ => H) (fun b => ?_))
  obtain ⟨j, hj, rfl⟩ := nI_of a
  have c : ¬ 4 ≤ j := fun q => b (nI_le (a := 4) q hj)
  exact absurd ⟨j, by omega, rfl⟩ h
section
variable {post : Int32 → Prop} {v : SY}
theorem os_bad_t {j : Nat} (h : j < 4) (H : post 0) : wpY_bad post v (nI j) :=
  br_f (nI_pos (by omega)) (br_t (nI_le (b := 3) (by omega) (by decide)) H)
theorem os_bad_f {p : Int32} (h : ¬ os_Pr p) (H : post 1) : wpY_bad post v p := by
  refine br_c (fun _ => H) (fun a => br_c (fun b => ?_) (fun _ => H))
  obtain ⟨j, hj, rfl⟩ := nI_of a
  have c := (nI_leI (a := j) (b := 3) hj (by decide)).mp b
  exact absurd ⟨j, by omega, rfl⟩ h
end
end
section
/-- both hold the same rules, horizon and number of injected events; X's and Y's first n cells are the same events iv; X's event arrays are a full run from them -/
def i_Rel (k : Nat) (u : SX) (v : SY) : Prop :=
  ∃ (tg dl : Nat → Nat) (n m : Nat) (iv ev : Nat → os_E) (st : Nat → Int32) (hz cnt la : Int32) (rt rd rm ip ir ep er sa cs ti pr va li dn sts hbs : Nat → Int32),
    u = (nI n, nI m, hz, rt, rd, rm, ip, ir, ep, er, sa, cs) ∧ v = (nI n, hz, cnt, la, rt, rd, rm, ti, pr, va, li, dn, sts, hbs) ∧ os_Rul tg dl rt rd ∧ -1 ≤ hz.toInt ∧ n ≤ 24 ∧ m ≤ 96 ∧ (n = 0 → m = 0) ∧ os_Xok ip ir iv n ∧ os_Yok ti pr va li iv n ∧ os_Xok ep er ev m ∧ os_Pre tg dl rm (os_pd iv (fun _ => true) n) ev sa m [] st
theorem i_up {k : Nat} {u : SX} {v : SY} (h : i_Rel k u v) : i_Rel (k + 5) u v := h
def os_fl (i : Nat) (x : Int32) : Nat → Int32 := fun j => if j < i then x else 0
theorem os_fl_0 {x : Int32} : os_fl 0 x = fun _ => 0 := by
  funext j
  exact if_neg (by omega)
theorem os_fl_s {i : Nat} {x : Int32} : upd (os_fl i x) i x = os_fl (i + 1) x := by
  funext j
  by_cases h : j = i
  · subst h
    rw [pk_us]
    exact (if_pos (by omega)).symm
  · rw [pk_un h]
    unfold os_fl
    by_cases q : j < i
    · rw [if_pos q, if_pos (by omega)]
    · rw [if_neg q, if_neg (by omega)]
theorem os_z_s {i : Nat} : upd (fun _ => 0) i 0 = fun _ => (0 : Int32) := by
  funext j
  unfold upd
  by_cases h : j = i
  · rw [if_pos h]
  · rw [if_neg h]
theorem os_xi {post : SX → Prop} {z1 z2 z3 z4 z5 z6 : Nat → Int32} (H : post (0, 0, -1, fun _ => 0, os_fl 4 1, os_fl 4 15, z1, z2, z3, z4, z5, z6)) : ∀ d i : Nat, i + d = 4 → wX_init_74 post 0 0 0 (d + 1) (nI i) (fun _ => 0) (os_fl i 1) (os_fl i 15) z1 z2 z3 z4 z5 z6 := by
  intro d
  induction d with
  | zero =>
    intro i hi
    have e : i = 4 := by omega
    subst e
    exact br_t (nI_le (a := 4) (by omega) (by omega)) H
  | succ d ih =>
    intro i hi
    have ci : (nI i).toNatClampNeg = i := nI_clamp (by omega)
    have v4 : vp_in (nI i) 4 := vp_in_nI (by omega) (by decide)
    refine br_f (nI_ge (b := 4) (by omega) (by decide)) ?_
    rw [ci]
    exact ⟨v4, nm_r os_z_s ⟨v4, nm_r os_fl_s ⟨v4, nm_r os_fl_s (nm_r (nI_1 i) (ih (i + 1) (by omega)))⟩⟩⟩
theorem os_yi {post : SY → Prop} {z0 z1 z2 z3 z4 z5 z6 z7 : Nat → Int32} (H : post (0, -1, 0, 0, z0, os_fl 4 1, os_fl 4 15, z1, z2, z3, z4, z5, z6, z7)) : ∀ d i : Nat, i + d = 4 → wY_init_81 post 0 0 0 0 (d + 1) (nI i) z0 (os_fl i 1) (os_fl i 15) z1 z2 z3 z4 z5 z6 z7 := by
  intro d
  induction d with
  | zero =>
    intro i hi
    have e : i = 4 := by omega
    subst e
    exact br_t (nI_le (a := 4) (by omega) (by omega)) H
  | succ d ih =>
    intro i hi
    have ci : (nI i).toNatClampNeg = i := nI_clamp (by omega)
    have v4 : vp_in (nI i) 4 := vp_in_nI (by omega) (by decide)
    refine br_f (nI_ge (b := 4) (by omega) (by decide)) ?_
    rw [ci]
    exact ⟨v4, nm_r os_fl_s ⟨v4, nm_r os_fl_s (nm_r (nI_1 i) (ih (i + 1) (by omega)))⟩⟩
theorem i_vc0 : wpX_init (fun u => wpY_init (fun v => i_Rel 0 u v)) := by
  have A : i_Rel 0 (0, 0, -1, fun _ => 0, os_fl 4 1, os_fl 4 15, fun _ => 0, fun _ => 0, fun _ => 0, fun _ => 0, fun _ => 0, fun _ => 0) (0, -1, 0, 0, fun _ => 0, os_fl 4 1, os_fl 4 15, fun _ => 0, fun _ => 0, fun _ => 0, fun _ => 0, fun _ => 0, fun _ => 0, fun _ => 0) := by
    refine ⟨fun _ => 0, fun _ => 1, 0, 0, fun _ => (0, 0), fun _ => (0, 0), fun _ => 0, -1, 0, 0, _, _, _, _, _, _, _, _, _, _, _, _, _, _, _, _, rfl, rfl, ⟨fun p => ⟨by dsimp only; omega, by dsimp only; omega, by dsimp only; omega⟩, fun p hp => ⟨rfl, if_pos hp⟩⟩, by decide, by omega, by omega, fun _ => rfl, fun j hj => absurd hj (by omega), fun j hj => absurd hj (by omega), fun j hj => absurd hj (by omega), ⟨List.Perm.refl _, rfl⟩⟩
  have B := fun z0 z1 z2 z3 z4 z5 z6 z7 post H => os_yi (post := post) (z0 := z0) (z1 := z1) (z2 := z2) (z3 := z3) (z4 := z4) (z5 := z5) (z6 := z6) (z7 := z7) H 4 0 rfl
  have C := fun z1 z2 z3 z4 z5 z6 post H => os_xi (post := post) (z1 := z1) (z2 := z2) (z3 := z3) (z4 := z4) (z5 := z5) (z6 := z6) H 4 0 rfl
  simp only [os_fl_0] at B C
  unfold wpX_init
  refine ⟨5, C _ _ _ _ _ _ _ ?_⟩
  unfold wpY_init
  exact ⟨5, B _ _ _ _ _ _ _ _ _ A⟩
theorem i_vc_rule {k : Nat} {u : SX} {v : SY} (I : i_Rel k u v) (hk : k + 5 ≤ 2560) (v1 : Int32) (v2 : Int32) (v3 : Int32) (v4 : Int32) : wpX_rule (fun r u' => wpY_rule (fun r' v' => r' = r ∧ i_Rel (k + 5) u' v') v v1 v2 v3 v4) u v1 v2 v3 v4 := by
  have J : i_Rel (k + 5) u v := I
  obtain ⟨tg, dl, n, m, iv, ev, st, hz, cnt, la, rt, rd, rm, ip, ir, ep, er, sa, cs, ti, pr, va, li, dn, sts, hbs, rfl, rfl, R, hh, hn, hm, h0, hi, hy, hx, P⟩ := I
  unfold wpX_rule wpY_rule
  dsimp only
  by_cases p1 : os_Pr v1
  · obtain ⟨a, ha, rfl⟩ := p1
    refine os_isP_t ha (br_f (by decide) ?_)
    by_cases p2 : os_Pr v2
    · obtain ⟨b, hb, rfl⟩ := p2
      refine os_isP_t hb (br_f (by decide) ?_)
      by_cases c1 : v3 < 1
      · exact br_t c1 (os_bad_t ha (br_t rfl (os_bad_t hb (br_t rfl (br_t c1 ⟨rfl, J⟩)))))
      by_cases c2 : 9 < v3
      · exact br_f c1 (br_t c2 (os_bad_t ha (br_t rfl (os_bad_t hb (br_t rfl (br_f c1 (br_t c2 ⟨rfl, J⟩)))))))
      by_cases c3 : v4 < 0
      · exact br_f c1 (br_f c2 (br_t c3 (os_bad_t ha (br_t rfl (os_bad_t hb (br_t rfl (br_f c1 (br_f c2 (br_t c3 ⟨rfl, J⟩)))))))))
      by_cases c4 : v4 ≤ 15
      · by_cases c5 : nI n ≤ 0
        · have e0 : n = 0 := by
            have := (nI_leI (a := n) (b := 0) (by omega) (by decide)).mp c5
            omega
          have em := h0 e0
          have va4 : vp_in (nI a) 4 := vp_in_nI ha (by decide)
          have ca : (nI a).toNatClampNeg = a := nI_clamp (by omega)
          obtain ⟨d, hd, hd1, hd9⟩ : ∃ d : Nat, v3 = nI d ∧ 1 ≤ d ∧ d ≤ 9 := by
            have q : ¬ v3 < 0 := fun q => c1 (Int32.lt_trans q (by decide))
            obtain ⟨d, hd, rfl⟩ := nI_of q
            refine ⟨d, rfl, ?_, ?_⟩
            · have : ¬ d < 1 := fun w => c1 (nI_lt (a := d) (b := 1) w (by decide))
              omega
            · have : ¬ 9 < d := fun w => c2 (nI_lt (a := 9) (b := d) w hd)
              omega
          subst hd
          have J' : i_Rel (k + 5) (nI n, nI m, hz, upd rt a (nI b), upd rd a (nI d), upd rm a v4, ip, ir, ep, er, sa, cs) (nI n, hz, cnt, la, upd rt a (nI b), upd rd a (nI d), upd rm a v4, ti, pr, va, li, dn, sts, hbs) := by
            refine ⟨fun p => if p = a then b else tg p, fun p => if p = a then d else dl p, n, m, iv, ev, st, hz, cnt, la, _, _, _, _, _, _, _, _, _, _, _, _, _, _, _, _, rfl, rfl, ⟨fun p => ?_, fun p hp => ?_⟩, hh, hn, hm, h0, hi, hy, hx, ?_⟩
            · dsimp only
              by_cases q : p = a
              · rw [if_pos q, if_pos q]
                exact ⟨hb, hd1, hd9⟩
              · rw [if_neg q, if_neg q]
                exact R.1 p
            · dsimp only
              by_cases q : p = a
              · subst q
                rw [pk_us, pk_us, if_pos rfl, if_pos rfl]
                exact ⟨rfl, rfl⟩
              · rw [pk_un q, pk_un q, if_neg q, if_neg q]
                exact R.2 p hp
            · subst em
              exact P
          rw [ca]
          exact br_f c1 (br_f c2 (br_f c3 (br_t c4 (br_t c5 ⟨va4, nm_e ⟨va4, nm_e ⟨va4, nm_e (os_bad_t ha (br_t rfl (os_bad_t hb (br_t rfl (br_f c1 (br_f c2 (br_f c3 (br_t c4 (br_t c5 ⟨va4, nm_e ⟨va4, nm_e ⟨va4, nm_e ⟨rfl, J'⟩⟩⟩⟩)))))))))⟩⟩⟩))))
        · exact br_f c1 (br_f c2 (br_f c3 (br_t c4 (br_f c5 (os_bad_t ha (br_t rfl (os_bad_t hb (br_t rfl (br_f c1 (br_f c2 (br_f c3 (br_t c4 (br_f c5 ⟨rfl, J⟩)))))))))))))
      · exact br_f c1 (br_f c2 (br_f c3 (br_f c4 (os_bad_t ha (br_t rfl (os_bad_t hb (br_t rfl (br_f c1 (br_f c2 (br_f c3 (br_f c4 ⟨rfl, J⟩)))))))))))
    · exact os_isP_f p2 (br_t rfl (os_bad_t ha (br_t rfl (os_bad_f p2 (br_f (by decide) ⟨rfl, J⟩)))))
  · exact os_isP_f p1 (br_t rfl (os_bad_f p1 (br_f (by decide) ⟨rfl, J⟩)))
end
section
theorem i_vc_inject {k : Nat} {u : SX} {v : SY} (I : i_Rel k u v) (hk : k + 5 ≤ 2560) (v1 : Int32) (v2 : Int32) (v3 : Int32) : wpX_inject (fun r u' => wpY_inject (fun r' v' => r' = r ∧ i_Rel (k + 5) u' v') v v1 v2 v3) u v1 v2 v3 := by
  have J : i_Rel (k + 5) u v := I
  obtain ⟨tg, dl, n, m, iv, ev, st, hz, cnt, la, rt, rd, rm, ip, ir, ep, er, sa, cs, ti, pr, va, li, dn, sts, hbs, rfl, rfl, R, hh, hn, hm, h0, hi, hy, hx, P⟩ := I
  unfold wpX_inject wpY_inject
  dsimp only
  by_cases p1 : os_Pr v1
  · obtain ⟨a, ha, rfl⟩ := p1
    refine os_isP_t ha (br_f (by decide) ?_)
    by_cases c1 : v2 < 0
    · exact br_t c1 (os_bad_t ha (br_t rfl (br_t c1 ⟨rfl, J⟩)))
    by_cases c2 : v2 ≤ 99
    · by_cases c3 : hz < v2
      · by_cases c4 : n < 24
        · have d1 : nI n < 24 := nI_lt (b := 24) c4 (by decide)
          have d2 : ¬ nI n = 24 := fun q => by
            have := (nI_eq (a := n) (b := 24) (by omega) (by decide)).mp q
            omega
          obtain ⟨t, ht, rfl⟩ := nI_of c1
          have t99 := (nI_leI (a := t) (b := 99) ht (by decide)).mp c2
          obtain ⟨w, hw, ew⟩ := pk_andE v3 (m := 15) 4 (by decide)
          obtain ⟨l, hl, el⟩ := pk_andE (v3 >>> ((4 : Int32) &&& 31)) (m := 3) 2 (by decide)
          have cn : (nI n).toNatClampNeg = n := nI_clamp (by omega)
          have vn : vp_in (nI n) 24 := vp_in_nI c4 (by decide)
          have wx : os_wf (a, t * 64 + w * 4 + l) := by
            refine ⟨ha, ?_⟩
            dsimp only
            omega
          have k1 : (t * 64 + w * 4 + l) / 64 = t := by omega
          have k2 : (t * 64 + w * 4 + l) / 4 % 16 = w := by omega
          have k3 : (t * 64 + w * 4 + l) % 4 = l := by omega
          have X := os_Xok_ad wx hi
          have Y := os_Yok_ad wx hy
          dsimp only at X Y
          rw [k1, k2, k3] at Y
          rw [cn, ew, el]
          refine br_f c1 (br_t c2 (br_t c3 (br_t d1 ⟨vn, nm_e ?_⟩)))
          unfold wpX_rankOf
          refine ⟨vn, nm_r (congrArg (upd ir n) (os_rank (by omega) (by omega) (by omega))) (nm_r (nI_1 n) ?_)⟩
          refine os_xsim (n := n + 1) (by omega) X R (fun m ep er sa cs ev st h1 h2 h3 => ?_)
          dsimp only
          refine os_bad_t ha (br_t rfl (br_f c1 (br_t c2 (br_t c3 (br_f d2 (os_yput (m := n) (by omega) ?_))))))
          dsimp only
          exact nm_r (nI_1 n) ⟨rfl, tg, dl, n + 1, m, os_ad iv n (a, t * 64 + w * 4 + l), ev, st, hz, _, _, _, _, _, _, _, _, _, _, _, _, _, _, _, _, _, _, rfl, rfl, R, hh, by omega, h1, fun q => absurd q (by omega), X, Y, h2, h3⟩
        · have d1 : ¬ nI n < 24 := nI_nlt (b := 24) (by omega) (by omega)
          have e : n = 24 := by omega
          subst e
          exact br_f c1 (br_t c2 (br_t c3 (br_f d1 (os_bad_t ha (br_t rfl (br_f c1 (br_t c2 (br_t c3 (br_t rfl ⟨rfl, J⟩)))))))))
      · exact br_f c1 (br_t c2 (br_f c3 (os_bad_t ha (br_t rfl (br_f c1 (br_t c2 (br_f c3 ⟨rfl, J⟩)))))))
    · exact br_f c1 (br_f c2 (os_bad_t ha (br_t rfl (br_f c1 (br_f c2 ⟨rfl, J⟩)))))
  · exact os_isP_f p1 (br_t rfl (os_bad_f p1 (br_f (by decide) ⟨rfl, J⟩)))
theorem i_vc_work {k : Nat} {u : SX} {v : SY} (I : i_Rel k u v) (hk : k + 5 ≤ 2560) (v1 : Int32) (v2 : Int32) : wpX_work (fun r => wpY_work (fun r' => r' = r ∧ i_Rel (k + 5) u v) v v1 v2) u v1 v2 := by
  have J : i_Rel (k + 5) u v := I
  obtain ⟨tg, dl, n, m, iv, ev, st, hz, cnt, la, rt, rd, rm, ip, ir, ep, er, sa, cs, ti, pr, va, li, dn, sts, hbs, rfl, rfl, R, hh, hn, hm, h0, hi, hy, hx, P⟩ := I
  unfold wpX_work wpY_work
  dsimp only
  by_cases p1 : os_Pr v1
  · obtain ⟨a, ha, rfl⟩ := p1
    exact os_isP_t ha (br_f (by decide) (os_bad_t ha (br_t rfl ⟨rfl, J⟩)))
  · exact os_isP_f p1 (br_t rfl (os_bad_f p1 (br_f (by decide) ⟨rfl, J⟩)))
theorem i_vc_commit {k : Nat} {u : SX} {v : SY} (I : i_Rel k u v) (hk : k + 5 ≤ 2560) (v1 : Int32) : wpX_commit (fun r u' => wpY_commit (fun r' v' => r' = r ∧ i_Rel (k + 5) u' v') v v1) u v1 := by
  have J : i_Rel (k + 5) u v := I
  obtain ⟨tg, dl, n, m, iv, ev, st, hz, cnt, la, rt, rd, rm, ip, ir, ep, er, sa, cs, ti, pr, va, li, dn, sts, hbs, rfl, rfl, R, hh, hn, hm, h0, hi, hy, hx, P⟩ := I
  unfold wpX_commit wpY_commit
  dsimp only
  by_cases c1 : v1 < 0
  · exact br_t c1 (br_t c1 ⟨rfl, J⟩)
  by_cases c2 : v1 ≤ 200
  · by_cases c3 : hz ≤ v1
    · have hv : -1 ≤ v1.toInt := by
        obtain ⟨j, hj, rfl⟩ := nI_of c1
        rw [nI_toInt hj]
        omega
      obtain ⟨T, hT⟩ := os_T hv
      refine br_f c1 (br_t c2 (br_t c3 ?_))
      unfold wpX_countEventsUpTo
      refine ⟨m + 1, os_xco hm hx hT ?_ m 0 (by omega)⟩
      refine br_f c1 (br_t c2 (br_t c3 (os_ysim hn hy R hT (fun cnt' la' ti' pr' va' li' dn' sts' hbs' st' hb' q h1 h2 h3 => ?_))))
      dsimp only
      have e := os_agree (fun p => (R.1 p).2.1) P h3
      unfold wpY_all
      refine ⟨?_, tg, dl, n, m, iv, ev, st, v1, _, _, _, _, _, _, _, _, _, _, _, _, _, _, _, _, _, _, rfl, rfl, R, hv, hn, hm, h0, hi, h1, hx, P⟩
      rw [← e, (h2 0 (by decide)).2, (h2 1 (by decide)).2, (h2 2 (by decide)).2, (h2 3 (by decide)).2]
      rfl
    · exact br_f c1 (br_t c2 (br_f c3 (br_f c1 (br_t c2 (br_f c3 ⟨rfl, J⟩)))))
  · exact br_f c1 (br_f c2 (br_f c1 (br_f c2 ⟨rfl, J⟩)))
theorem i_vc_clear {k : Nat} {u : SX} {v : SY} (I : i_Rel k u v) (hk : k + 5 ≤ 2560) : wpX_clear (fun u' => wpY_clear (fun v' => i_Rel (k + 5) u' v') v) u := by
  obtain ⟨tg, dl, n, m, iv, ev, st, hz, cnt, la, rt, rd, rm, ip, ir, ep, er, sa, cs, ti, pr, va, li, dn, sts, hbs, rfl, rfl, R, hh, hn, hm, h0, hi, hy, hx, P⟩ := I
  unfold wpX_clear wpX_forgetEvents wpY_clear
  dsimp only
  exact ⟨tg, dl, 0, 0, iv, ev, fun _ => 0, -1, 0, _, _, _, _, _, _, _, _, _, _, _, _, _, _, _, _, _, rfl, rfl, R, by decide, by omega, by omega, fun _ => rfl, fun j hj => absurd hj (by omega), fun j hj => absurd hj (by omega), fun j hj => absurd hj (by omega), ⟨List.Perm.refl _, rfl⟩⟩
theorem i_vc_state {k : Nat} {u : SX} {v : SY} (I : i_Rel k u v) (hk : k + 5 ≤ 2560) (v1 : Int32) (v2 : Int32) : wpX_state (fun r => wpY_state (fun r' v' => r' = r ∧ i_Rel (k + 5) u v') v v1 v2) u v1 v2 := by
  have J : i_Rel (k + 5) u v := I
  obtain ⟨tg, dl, n, m, iv, ev, st, hz, cnt, la, rt, rd, rm, ip, ir, ep, er, sa, cs, ti, pr, va, li, dn, sts, hbs, rfl, rfl, R, hh, hn, hm, h0, hi, hy, hx, P⟩ := I
  unfold wpX_state wpY_state wpX_canBeAskedFor wpY_askable
  dsimp only
  by_cases p1 : os_Pr v1
  · obtain ⟨a, ha, rfl⟩ := p1
    refine os_isP_t ha (br_f (by decide) ?_)
    by_cases c1 : v2 < hz
    · exact br_t c1 (br_t rfl (os_bad_t ha (br_t rfl (br_t c1 (br_t rfl ⟨rfl, J⟩)))))
    by_cases c2 : 200 < v2
    · exact br_f c1 (br_t c2 (br_t rfl (os_bad_t ha (br_t rfl (br_f c1 (br_t c2 (br_t rfl ⟨rfl, J⟩)))))))
    have hv : -1 ≤ v2.toInt := by
      rw [Int32.lt_iff_toInt_lt] at c1
      omega
    obtain ⟨T, hT⟩ := os_T hv
    have ca : (nI a).toNatClampNeg = a := nI_clamp (by omega)
    refine br_f c1 (br_f c2 (br_f (by decide) ⟨m + 1, os_xst hm ha hx hT ?_ m 0 (by omega)⟩))
    refine os_bad_t ha (br_t rfl (br_f c1 (br_f c2 (br_f (by decide) (os_ysim hn hy R hT (fun cnt' la' ti' pr' va' li' dn' sts' hbs' st' hb' q h1 h2 h3 => ?_))))))
    dsimp only
    have e := os_agree (fun p => (R.1 p).2.1) P h3
    refine ⟨vp_in_nI ha (by decide), ?_, tg, dl, n, m, iv, ev, st, hz, _, _, _, _, _, _, _, _, _, _, _, _, _, _, _, _, _, _, rfl, rfl, R, hh, hn, hm, h0, hi, h1, hx, P⟩
    rw [← e, ca, (h2 a ha).1]
  · exact os_isP_f p1 (br_t rfl (os_bad_f p1 (br_f (by decide) ⟨rfl, J⟩)))
theorem i_vc_handled {k : Nat} {u : SX} {v : SY} (I : i_Rel k u v) (hk : k + 5 ≤ 2560) (v1 : Int32) (v2 : Int32) : wpX_handled (fun r => wpY_handled (fun r' v' => r' = r ∧ i_Rel (k + 5) u v') v v1 v2) u v1 v2 := by
  have J : i_Rel (k + 5) u v := I
  obtain ⟨tg, dl, n, m, iv, ev, st, hz, cnt, la, rt, rd, rm, ip, ir, ep, er, sa, cs, ti, pr, va, li, dn, sts, hbs, rfl, rfl, R, hh, hn, hm, h0, hi, hy, hx, P⟩ := I
  unfold wpX_handled wpY_handled wpX_canBeAskedFor wpY_askable
  dsimp only
  by_cases p1 : os_Pr v1
  · obtain ⟨a, ha, rfl⟩ := p1
    refine os_isP_t ha (br_f (by decide) ?_)
    by_cases c1 : v2 < hz
    · exact br_t c1 (br_t rfl (os_bad_t ha (br_t rfl (br_t c1 (br_t rfl ⟨rfl, J⟩)))))
    by_cases c2 : 200 < v2
    · exact br_f c1 (br_t c2 (br_t rfl (os_bad_t ha (br_t rfl (br_f c1 (br_t c2 (br_t rfl ⟨rfl, J⟩)))))))
    have hv : -1 ≤ v2.toInt := by
      rw [Int32.lt_iff_toInt_lt] at c1
      omega
    obtain ⟨T, hT⟩ := os_T hv
    have ca : (nI a).toNatClampNeg = a := nI_clamp (by omega)
    refine br_f c1 (br_f c2 (br_f (by decide) ⟨m + 1, os_xha (sa := sa) hm ha hx hT ?_ m 0 (by omega)⟩))
    refine os_bad_t ha (br_t rfl (br_f c1 (br_f c2 (br_f (by decide) (os_ysim hn hy R hT (fun cnt' la' ti' pr' va' li' dn' sts' hbs' st' hb' q h1 h2 h3 => ?_))))))
    dsimp only
    have e := os_agree (fun p => (R.1 p).2.1) P h3
    refine ⟨vp_in_nI ha (by decide), ?_, tg, dl, n, m, iv, ev, st, hz, _, _, _, _, _, _, _, _, _, _, _, _, _, _, _, _, _, _, rfl, rfl, R, hh, hn, hm, h0, hi, h1, hx, P⟩
    rw [← e, ca, (h2 a ha).2]
  · exact os_isP_f p1 (br_t rfl (os_bad_f p1 (br_f (by decide) ⟨rfl, J⟩)))
theorem i_vc_lastTime {k : Nat} {u : SX} {v : SY} (I : i_Rel k u v) (hk : k + 5 ≤ 2560) : wpX_lastTime (fun r => wpY_lastTime (fun r' v' => r' = r ∧ i_Rel (k + 5) u v') v) u := by
  obtain ⟨tg, dl, n, m, iv, ev, st, hz, cnt, la, rt, rd, rm, ip, ir, ep, er, sa, cs, ti, pr, va, li, dn, sts, hbs, rfl, rfl, R, hh, hn, hm, h0, hi, hy, hx, P⟩ := I
  have Y : ∀ r : Int32, (os_Fi 201 ev sa m).2.2 = r → wpY_lastTime (fun r' v' => r' = r ∧ i_Rel (k + 5) (nI n, nI m, hz, rt, rd, rm, ip, ir, ep, er, sa, cs) v') (nI n, hz, cnt, la, rt, rd, rm, ti, pr, va, li, dn, sts, hbs) := by
    intro r hr
    unfold wpY_lastTime
    dsimp only
    refine os_ysim hn hy R os_T200 (fun cnt' la' ti' pr' va' li' dn' sts' hbs' st' hb' q h1 h2 h3 => ?_)
    dsimp only
    have e := os_agree (fun p => (R.1 p).2.1) P h3
    refine ⟨?_, tg, dl, n, m, iv, ev, st, hz, _, _, _, _, _, _, _, _, _, _, _, _, _, _, _, _, _, _, rfl, rfl, R, hh, hn, hm, h0, hi, h1, hx, P⟩
    rw [← hr, ← e]
  unfold wpX_lastTime
  dsimp only
  cases m with
  | zero => exact br_t (by decide) (Y _ rfl)
  | succ m =>
    obtain ⟨h1, h2, h3⟩ := hx m (by omega)
    have b := os_x_r h3
    have b2 := h3.2
    have cm : (nI m).toNatClampNeg = m := nI_clamp (by omega)
    refine br_f (nI_nle (by omega) (by omega)) ?_
    rw [nI_pred, cm, h2]
    refine ⟨vp_in_nI (by omega) (by decide), ?_⟩
    unfold wpX_timeOf
    rw [os_tmu (by omega)]
    exact Y _ (by rw [os_Fi_t (by omega)])
theorem i_vc_events {k : Nat} {u : SX} {v : SY} (I : i_Rel k u v) (hk : k + 5 ≤ 2560) : wpX_events (fun r => wpY_events (fun r' v' => r' = r ∧ i_Rel (k + 5) u v') v) u := by
  obtain ⟨tg, dl, n, m, iv, ev, st, hz, cnt, la, rt, rd, rm, ip, ir, ep, er, sa, cs, ti, pr, va, li, dn, sts, hbs, rfl, rfl, R, hh, hn, hm, h0, hi, hy, hx, P⟩ := I
  unfold wpX_events wpY_events
  dsimp only
  refine os_ysim hn hy R os_T200 (fun cnt' la' ti' pr' va' li' dn' sts' hbs' st' hb' q h1 h2 h3 => ?_)
  dsimp only
  have e := os_agree (fun p => (R.1 p).2.1) P h3
  have s := os_sum_all (T := 201) (ev := ev) (sa := sa) (m := m) (fun j hj => ⟨by have := (hx j hj).2.2.2; omega, (hx j hj).2.2.1⟩)
  unfold wpY_all
  refine ⟨?_, tg, dl, n, m, iv, ev, st, hz, _, _, _, _, _, _, _, _, _, _, _, _, _, _, _, _, _, _, rfl, rfl, R, hh, hn, hm, h0, hi, h1, hx, P⟩
  rw [← s, ← e, (h2 0 (by decide)).2, (h2 1 (by decide)).2, (h2 2 (by decide)).2, (h2 3 (by decide)).2]
  rfl
theorem i_vc_horizon {k : Nat} {u : SX} {v : SY} (I : i_Rel k u v) (hk : k + 5 ≤ 2560) : wpX_horizon (fun r => wpY_horizon (fun r' => r' = r ∧ i_Rel (k + 5) u v) v) u := by
  have J : i_Rel (k + 5) u v := I
  obtain ⟨tg, dl, n, m, iv, ev, st, hz, cnt, la, rt, rd, rm, ip, ir, ep, er, sa, cs, ti, pr, va, li, dn, sts, hbs, rfl, rfl, R, hh, hn, hm, h0, hi, hy, hx, P⟩ := I
  exact ⟨rfl, J⟩
end
