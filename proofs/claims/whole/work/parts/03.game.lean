def qg_par (c : Nat) : Bool := decide (c % 2 = 1)
def qg_mv (fi se : Nat → Nat) (p : Nat) (b : Bool) : Nat := if b = true then se p else fi p
/-- the moves of plays in which the player pl keeps to the plan ch -/
def qg_E (own : Nat → Bool) (fi se : Nat → Nat) (pl : Bool) (ch : Nat → Bool) (p q : Nat) : Prop :=
  p < 8 ∧ ((own p = pl ∧ q = qg_mv fi se p (ch p)) ∨ (own p ≠ pl ∧ (q = fi p ∨ q = se p)))
/-- on a round trip whose greatest colour is its own, and is the other one's -/
def qg_L (own : Nat → Bool) (fi se col : Nat → Nat) (pl : Bool) (ch : Nat → Bool) (q : Nat) : Prop :=
  qg_par (col q) ≠ pl ∧ qr_R (qg_E own fi se pl ch) (fun b => b < 8 ∧ col b ≤ col q) q q
def qg_Won (own : Nat → Bool) (fi se col : Nat → Nat) (pl : Bool) (ch : Nat → Bool) (p : Nat) : Prop :=
  ¬ ∃ q, q < 8 ∧ qg_L own fi se col pl ch q ∧ qr_R (qg_E own fi se pl ch) (fun b => b < 8) p q
theorem qg_E_c {own own' : Nat → Bool} {fi se : Nat → Nat} {pl : Bool} {ch ch' : Nat → Bool} (ho : ∀ p, p < 8 → own p = own' p)
    (hc : ∀ p, p < 8 → own p = pl → ch p = ch' p) (p q : Nat) : qg_E own fi se pl ch p q ↔ qg_E own' fi se pl ch' p q := by
  unfold qg_E
  constructor
  · rintro ⟨hp, h⟩
    refine ⟨hp, ?_⟩
    rw [← ho p hp]
    rcases h with h | h
    · rw [← hc p hp h.1]; exact Or.inl h
    · exact Or.inr h
  · rintro ⟨hp, h⟩
    refine ⟨hp, ?_⟩
    rw [← ho p hp] at h
    rcases h with h | h
    · rw [hc p hp h.1]; exact Or.inl h
    · exact Or.inr h
theorem qg_Won_c {own own' : Nat → Bool} {fi se col : Nat → Nat} {pl : Bool} {ch ch' : Nat → Bool} (ho : ∀ p, p < 8 → own p = own' p)
    (hc : ∀ p, p < 8 → own p = pl → ch p = ch' p) (p : Nat) : qg_Won own fi se col pl ch p ↔ qg_Won own' fi se col pl ch' p := by
  unfold qg_Won qg_L
  have e := qg_E_c (fi := fi) (se := se) ho hc
  constructor
  · rintro h ⟨q, hq, ⟨h1, h2⟩, h3⟩
    exact h ⟨q, hq, ⟨h1, (qr_congr e (fun _ => Iff.rfl) _ _).mpr h2⟩, (qr_congr e (fun _ => Iff.rfl) _ _).mpr h3⟩
  · rintro h ⟨q, hq, ⟨h1, h2⟩, h3⟩
    exact h ⟨q, hq, ⟨h1, (qr_congr e (fun _ => Iff.rfl) _ _).mp h2⟩, (qr_congr e (fun _ => Iff.rfl) _ _).mp h3⟩
noncomputable def qd_cnt (S : Nat → Prop) : Nat → Nat
  | 0 => 0
  | k + 1 => qd_cnt S k + @ite Nat (S k) (Classical.propDecidable _) 1 0
theorem qd_cnt_le {S S' : Nat → Prop} (h : ∀ p, S' p → S p) : ∀ k, qd_cnt S' k ≤ qd_cnt S k
  | 0 => Nat.le_refl _
  | k + 1 => by
    have ih := qd_cnt_le h k
    unfold qd_cnt
    by_cases a : S' k
    · rw [if_pos a, if_pos (h k a)]; omega
    · rw [if_neg a]; omega
theorem qd_cnt_lt {S S' : Nat → Prop} (h : ∀ p, S' p → S p) {p : Nat} (hp : S p) (hp' : ¬ S' p) : ∀ k, p < k → qd_cnt S' k < qd_cnt S k
  | 0, hk => absurd hk (Nat.not_lt_zero _)
  | k + 1, hk => by
    have le := qd_cnt_le h k
    unfold qd_cnt
    by_cases e : p = k
    · subst e
      rw [if_pos hp, if_neg hp']; omega
    · have ih := qd_cnt_lt h hp hp' k (by omega)
      by_cases a : S' k
      · rw [if_pos a, if_pos (h k a)]; omega
      · rw [if_neg a]; omega
theorem qd_max (S : Nat → Prop) (col : Nat → Nat) : ∀ k, (∃ p, p < k ∧ S p) → ∃ p, p < k ∧ S p ∧ ∀ q, q < k → S q → col q ≤ col p
  | 0, h => by obtain ⟨p, hp, _⟩ := h; omega
  | k + 1, h => by
    by_cases e : ∃ p, p < k ∧ S p
    · obtain ⟨p, hp, sp, hm⟩ := qd_max S col k e
      by_cases c : S k ∧ col p ≤ col k
      · refine ⟨k, by omega, c.1, fun q hq sq => ?_⟩
        by_cases hk : q = k
        · rw [hk]; exact Nat.le_refl _
        · exact Nat.le_trans (hm q (by omega) sq) c.2
      · refine ⟨p, by omega, sp, fun q hq sq => ?_⟩
        by_cases hk : q = k
        · subst hk
          by_cases d : col p ≤ col q
          · exact absurd ⟨sq, d⟩ c
          · omega
        · exact hm q (by omega) sq
    · obtain ⟨p, hp, sp⟩ := h
      have hk : p = k := by
        by_cases hk : p = k
        · exact hk
        · exact absurd ⟨p, by omega, sp⟩ e
      subst hk
      refine ⟨p, hp, sp, fun q hq sq => ?_⟩
      by_cases hk : q = p
      · rw [hk]; exact Nat.le_refl _
      · exact absurd ⟨q, by omega, sq⟩ e
section
variable (own : Nat → Bool) (fi se col : Nat → Nat)
def qd_at (S T : Nat → Prop) (j : Bool) : Nat → Nat → Prop
  | 0 => fun p => S p ∧ T p
  | n + 1 => fun p => qd_at S T j n p ∨ (S p ∧ ((own p = j ∧ (qd_at S T j n (fi p) ∨ qd_at S T j n (se p))) ∨ (own p ≠ j ∧ (S (fi p) → qd_at S T j n (fi p)) ∧ (S (se p) → qd_at S T j n (se p)))))
theorem qd_at_S (S T : Nat → Prop) (j : Bool) : ∀ n p, qd_at own fi se S T j n p → S p
  | 0, _, h => h.1
  | n + 1, p, h => by
    rcases h with h | h
    · exact qd_at_S S T j n p h
    · exact h.1
theorem qd_at_m (S T : Nat → Prop) (j : Bool) {n m : Nat} (h : n ≤ m) {p : Nat} (hp : qd_at own fi se S T j n p) : qd_at own fi se S T j m p := by
  induction m with
  | zero =>
    have e : n = 0 := by omega
    subst e
    exact hp
  | succ m ih =>
    by_cases e : n = m + 1
    · subst e; exact hp
    · exact Or.inl (ih (by omega))
/-- the attractor of T in S for j: its set, its ranks, its moves -/
theorem qd_attr (S T : Nat → Prop) (j : Bool) (hS : ∀ p, S p → S (fi p) ∨ S (se p)) :
    ∃ (A : Nat → Prop) (rk : Nat → Nat) (al : Nat → Bool), (∀ p, A p → S p) ∧ (∀ p, S p → T p → A p)
      ∧ (∀ p, A p → ¬ T p → own p = j → A (qg_mv fi se p (al p)) ∧ rk (qg_mv fi se p (al p)) < rk p)
      ∧ (∀ p, A p → ¬ T p → own p ≠ j → ∀ q, (q = fi p ∨ q = se p) → S q → A q ∧ rk q < rk p)
      ∧ (∀ p, S p → ¬ A p → own p = j → ¬ A (fi p) ∧ ¬ A (se p))
      ∧ (∀ p, S p → ¬ A p → (S (fi p) ∧ ¬ A (fi p)) ∨ (S (se p) ∧ ¬ A (se p))) := by
  have h1 : ∀ p, ∃ n, (∃ k, qd_at own fi se S T j k p) → qd_at own fi se S T j n p ∧ ∀ m, m < n → ¬ qd_at own fi se S T j m p := by
    intro p
    by_cases h : ∃ k, qd_at own fi se S T j k p
    · obtain ⟨n, hn⟩ := pk_least _ h
      exact ⟨n, fun _ => hn⟩
    · exact ⟨0, fun z => absurd z h⟩
  obtain ⟨rk, hrk⟩ := Classical.skolem.mp h1
  have hle : ∀ p n, qd_at own fi se S T j n p → rk p ≤ n := by
    intro p n h
    by_cases c : rk p ≤ n
    · exact c
    · exact absurd h ((hrk p ⟨n, h⟩).2 n (by omega))
  have hst : ∀ p, (∃ k, qd_at own fi se S T j k p) → ¬ T p → ∃ n, rk p = n + 1 ∧ ((own p = j ∧ (qd_at own fi se S T j n (fi p) ∨ qd_at own fi se S T j n (se p))) ∨ (own p ≠ j ∧ (S (fi p) → qd_at own fi se S T j n (fi p)) ∧ (S (se p) → qd_at own fi se S T j n (se p)))) := by
    intro p hp ht
    have h := hrk p hp
    cases hn : rk p with
    | zero => rw [hn] at h; exact absurd h.1.2 ht
    | succ n =>
      rw [hn] at h
      refine ⟨n, rfl, ?_⟩
      rcases h.1 with z | z
      · exact absurd z (h.2 n (by omega))
      · exact z.2
  have h2 : ∀ p, ∃ b : Bool, (∃ k, qd_at own fi se S T j k p) → ¬ T p → own p = j → (∃ k, qd_at own fi se S T j k (qg_mv fi se p b)) ∧ rk (qg_mv fi se p b) < rk p := by
    intro p
    by_cases c : (∃ k, qd_at own fi se S T j k p) ∧ ¬ T p ∧ own p = j
    · obtain ⟨n, hn, z⟩ := hst p c.1 c.2.1
      rcases z with z | z
      · rcases z.2 with z | z
        · exact ⟨false, fun _ _ _ => ⟨⟨n, z⟩, by have := hle _ _ z; show rk (fi p) < rk p; omega⟩⟩
        · exact ⟨true, fun _ _ _ => ⟨⟨n, z⟩, by have := hle _ _ z; show rk (se p) < rk p; omega⟩⟩
      · exact absurd c.2.2 z.1
    · exact ⟨false, fun a b d => absurd ⟨a, b, d⟩ c⟩
  obtain ⟨al, hal⟩ := Classical.skolem.mp h2
  refine ⟨fun p => ∃ k, qd_at own fi se S T j k p, rk, al, ?_, ?_, hal, ?_, ?_, ?_⟩
  · rintro p ⟨k, h⟩
    exact qd_at_S own fi se S T j k p h
  · exact fun p sp tp => ⟨0, sp, tp⟩
  · intro p hp ht ho q hq sq
    obtain ⟨n, hn, z⟩ := hst p hp ht
    rcases z with z | z
    · exact absurd z.1 ho
    · rcases hq with hq | hq
      · subst hq
        have := z.2.1 sq
        exact ⟨⟨n, this⟩, by have := hle _ _ this; omega⟩
      · subst hq
        have := z.2.2 sq
        exact ⟨⟨n, this⟩, by have := hle _ _ this; omega⟩
  · intro p sp hp ho
    refine ⟨?_, ?_⟩
    · rintro ⟨k, h⟩
      exact hp ⟨k + 1, Or.inr ⟨sp, Or.inl ⟨ho, Or.inl h⟩⟩⟩
    · rintro ⟨k, h⟩
      exact hp ⟨k + 1, Or.inr ⟨sp, Or.inl ⟨ho, Or.inr h⟩⟩⟩
  · intro p sp hp
    by_cases ho : own p = j
    · rcases hS p sp with h | h
      · refine Or.inl ⟨h, ?_⟩
        rintro ⟨k, z⟩
        exact hp ⟨k + 1, Or.inr ⟨sp, Or.inl ⟨ho, Or.inl z⟩⟩⟩
      · refine Or.inr ⟨h, ?_⟩
        rintro ⟨k, z⟩
        exact hp ⟨k + 1, Or.inr ⟨sp, Or.inl ⟨ho, Or.inr z⟩⟩⟩
    · by_cases c1 : S (fi p) ∧ ¬ ∃ k, qd_at own fi se S T j k (fi p)
      · exact Or.inl c1
      · by_cases c2 : S (se p) ∧ ¬ ∃ k, qd_at own fi se S T j k (se p)
        · exact Or.inr c2
        · exfalso
          have e1 : ∃ k, S (fi p) → qd_at own fi se S T j k (fi p) := by
            by_cases s : S (fi p)
            · by_cases a : ∃ k, qd_at own fi se S T j k (fi p)
              · obtain ⟨k, a⟩ := a; exact ⟨k, fun _ => a⟩
              · exact absurd ⟨s, a⟩ c1
            · exact ⟨0, fun z => absurd z s⟩
          have e2 : ∃ k, S (se p) → qd_at own fi se S T j k (se p) := by
            by_cases s : S (se p)
            · by_cases a : ∃ k, qd_at own fi se S T j k (se p)
              · obtain ⟨k, a⟩ := a; exact ⟨k, fun _ => a⟩
              · exact absurd ⟨s, a⟩ c2
            · exact ⟨0, fun z => absurd z s⟩
          obtain ⟨k1, e1⟩ := e1
          obtain ⟨k2, e2⟩ := e2
          exact hp ⟨k1 + k2 + 1, Or.inr ⟨sp, Or.inr ⟨ho, fun s => qd_at_m own fi se S T j (by omega) (e1 s), fun s => qd_at_m own fi se S T j (by omega) (e2 s)⟩⟩⟩
def qd_Ed (W : Nat → Prop) (j : Bool) (sg : Nat → Bool) (p q : Nat) : Prop :=
  W p ∧ W q ∧ ((own p = j ∧ q = qg_mv fi se p (sg p)) ∨ (own p ≠ j ∧ (q = fi p ∨ q = se p)))
def qd_Win (S W : Nat → Prop) (j : Bool) (sg : Nat → Bool) : Prop :=
  (∀ p, W p → S p) ∧ (∀ p, W p → own p = j → W (qg_mv fi se p (sg p))) ∧ (∀ p, W p → own p ≠ j → ∀ q, (q = fi p ∨ q = se p) → S q → W q)
    ∧ (∀ q, W q → qg_par (col q) ≠ j → ¬ qr_R (qd_Ed own fi se W j sg) (fun b => col b ≤ col q) q q)
def qd_Det (S : Nat → Prop) (i : Bool) : Prop :=
  ∃ (Wi : Nat → Prop) (si : Nat → Bool) (Wo : Nat → Prop) (so : Nat → Bool), qd_Win own fi se col S Wi i si ∧ qd_Win own fi se col S Wo (!i) so ∧ ∀ p, S p → Wi p ∨ Wo p
theorem qd_flip (S : Nat → Prop) {i : Bool} (h : qd_Det own fi se col S i) (i' : Bool) : qd_Det own fi se col S i' := by
  by_cases e : i' = i
  · rw [e]; exact h
  · have e' : i' = !i := by cases i <;> cases i' <;> simp_all
    obtain ⟨Wi, si, Wo, so, h1, h2, h3⟩ := h
    refine ⟨Wo, so, Wi, si, by rw [e']; exact h2, ?_, fun p sp => (h3 p sp).symm⟩
    have e2 : (!i') = i := by rw [e']; cases i <;> rfl
    rw [e2]; exact h1
theorem qd_ne {i j : Bool} (h : j ≠ i) : j = !i := by cases i <;> cases j <;> simp_all
theorem qd_case1 (S : Nat → Prop) (hS : ∀ p, S p → S (fi p) ∨ S (se p)) (d : Nat) (hd : ∀ p, S p → col p ≤ d) (i : Bool) (hi : qg_par d = i)
    (A : Nat → Prop) (rk : Nat → Nat) (al : Nat → Bool) (a1 : ∀ p, A p → S p)
    (a3 : ∀ p, A p → ¬ col p = d → own p = i → A (qg_mv fi se p (al p)) ∧ rk (qg_mv fi se p (al p)) < rk p)
    (a4 : ∀ p, A p → ¬ col p = d → own p ≠ i → ∀ q, (q = fi p ∨ q = se p) → S q → A q ∧ rk q < rk p)
    (W : Nat → Prop) (sg : Nat → Bool) (hW : qd_Win own fi se col (fun p => S p ∧ ¬ A p) W i sg) (hall : ∀ p, S p → ¬ A p → W p) : ∃ tu, qd_Win own fi se col S S i tu := by
  have h0 : ∀ p, ∃ b : Bool, (S p → A p → col p = d → S (qg_mv fi se p b)) ∧ (A p → ¬ col p = d → b = al p) ∧ (¬ A p → b = sg p) := by
    intro p
    by_cases a : A p
    · by_cases c : col p = d
      · by_cases s : S (fi p)
        · exact ⟨false, fun _ _ _ => s, fun _ z => absurd c z, fun z => absurd a z⟩
        · refine ⟨true, fun sp _ _ => ?_, fun _ z => absurd c z, fun z => absurd a z⟩
          rcases hS p sp with z | z
          · exact absurd z s
          · exact z
      · exact ⟨al p, fun _ _ z => absurd z c, fun _ _ => rfl, fun z => absurd a z⟩
    · exact ⟨sg p, fun _ z => absurd z a, fun z => absurd z a, fun _ => rfl⟩
  obtain ⟨tu, ht⟩ := Classical.skolem.mp h0
  refine ⟨tu, fun _ h => h, ?_, fun _ _ _ q _ sq => sq, ?_⟩
  · intro p sp ho
    by_cases a : A p
    · by_cases c : col p = d
      · exact (ht p).1 sp a c
      · rw [(ht p).2.1 a c]
        exact a1 _ (a3 p a c ho).1
    · rw [(ht p).2.2 a]
      exact (hW.1 _ (hW.2.1 p (hall p sp a) ho)).1
  · intro q sq hq hR
    have hlt : col q < d := by
      have := hd q sq
      by_cases e : col q = d
      · rw [e] at hq; exact absurd hi hq
      · omega
    have hR2 := qr_res (K := fun b => col b < d) (fun b hb => by have : col b ≤ col q := hb; show col b < d; omega) hlt hlt hR
    have hA : ∀ a b, (qd_Ed own fi se S i tu a b ∧ col a < d ∧ col b < d) → A a → A b ∧ rk b < rk a := by
      rintro a b ⟨⟨_, sb, e⟩, ca, _⟩ aa
      have ca' : ¬ col a = d := by have : col a < d := ca; omega
      rcases e with e | e
      · rw [e.2, (ht a).2.1 aa ca']
        exact a3 a aa ca' e.1
      · exact a4 a aa ca' e.1 b e.2 sb
    rcases qr_sep (fun a b e ha => (hA a b e ha).1) hR2 with ⟨_, h⟩ | ⟨nq, h⟩
    · exact absurd (qr_dec (rk := rk) (fun a b e => (hA a b e.1 e.2.1).2) h) (Nat.lt_irrefl _)
    · refine hW.2.2.2 q (hall q sq nq) hq (qr_mono ?_ (fun _ z => z) h)
      rintro a b ⟨⟨⟨sa, sb, e⟩, _, _⟩, na, nb⟩
      refine ⟨hall a sa na, hall b sb nb, ?_⟩
      rw [← (ht a).2.2 na]
      exact e
theorem qd_case2 (S : Nat → Prop) (i : Bool) (A : Nat → Prop)
    (a5 : ∀ p, S p → ¬ A p → own p = i → ¬ A (fi p) ∧ ¬ A (se p))
    (W : Nat → Prop) (sg : Nat → Bool) (hW : qd_Win own fi se col (fun p => S p ∧ ¬ A p) W (!i) sg)
    (B : Nat → Prop) (rk : Nat → Nat) (be : Nat → Bool) (b1 : ∀ p, B p → S p) (b2 : ∀ p, S p → W p → B p)
    (b3 : ∀ p, B p → ¬ W p → own p = (!i) → B (qg_mv fi se p (be p)) ∧ rk (qg_mv fi se p (be p)) < rk p)
    (b4 : ∀ p, B p → ¬ W p → own p ≠ (!i) → ∀ q, (q = fi p ∨ q = se p) → S q → B q ∧ rk q < rk p)
    (V : Nat → Prop) (ta : Nat → Bool) (hV : qd_Win own fi se col (fun p => S p ∧ ¬ B p) V (!i) ta) : ∃ tu, qd_Win own fi se col S (fun p => B p ∨ V p) (!i) tu := by
  have h0 : ∀ p, ∃ b : Bool, (W p → b = sg p) ∧ (B p → ¬ W p → b = be p) ∧ (¬ B p → ¬ W p → b = ta p) := by
    intro p
    by_cases w : W p
    · exact ⟨sg p, fun _ => rfl, fun _ z => absurd w z, fun _ z => absurd w z⟩
    · by_cases b : B p
      · exact ⟨be p, fun z => absurd z w, fun _ _ => rfl, fun z => absurd b z⟩
      · exact ⟨ta p, fun z => absurd z w, fun z => absurd z b, fun _ _ => rfl⟩
  obtain ⟨tu, ht⟩ := Classical.skolem.mp h0
  have hWB : ∀ p, W p → B p := fun p w => b2 p (hW.1 p w).1 w
  have hcl : ∀ p, W p → own p ≠ (!i) → ∀ q, (q = fi p ∨ q = se p) → S q → W q := by
    intro p w ho q hq sq
    have ho' : own p = i := by have := qd_ne ho; rw [this]; cases i <;> rfl
    have nA := a5 p (hW.1 p w).1 (hW.1 p w).2 ho'
    refine hW.2.2.1 p w ho q hq ⟨sq, ?_⟩
    rcases hq with hq | hq
    · rw [hq]; exact nA.1
    · rw [hq]; exact nA.2
  have hWW : ∀ a b, W a → S b → ((own a = (!i) ∧ b = qg_mv fi se a (tu a)) ∨ (own a ≠ (!i) ∧ (b = fi a ∨ b = se a))) → W b := by
    intro a b wa sb e
    rcases e with e | e
    · rw [e.2, (ht a).1 wa]; exact hW.2.1 a wa e.1
    · exact hcl a wa e.1 b e.2 sb
  have hBB : ∀ a b, B a → ¬ W a → S b → ((own a = (!i) ∧ b = qg_mv fi se a (tu a)) ∨ (own a ≠ (!i) ∧ (b = fi a ∨ b = se a))) → B b ∧ rk b < rk a := by
    intro a b ba wa sb e
    rcases e with e | e
    · rw [e.2, (ht a).2.1 ba wa]; exact b3 a ba wa e.1
    · exact b4 a ba wa e.1 b e.2 sb
  refine ⟨tu, ?_, ?_, ?_, ?_⟩
  · rintro p (h | h)
    · exact b1 p h
    · exact (hV.1 p h).1
  · intro p hp ho
    by_cases w : W p
    · rw [(ht p).1 w]
      exact Or.inl (hWB _ (hW.2.1 p w ho))
    · by_cases b : B p
      · rw [(ht p).2.1 b w]
        exact Or.inl (b3 p b w ho).1
      · rw [(ht p).2.2 b w]
        rcases hp with hp | hp
        · exact absurd hp b
        · exact Or.inr (hV.2.1 p hp ho)
  · intro p hp ho q hq sq
    by_cases w : W p
    · exact Or.inl (hWB q (hcl p w ho q hq sq))
    · by_cases b : B p
      · exact Or.inl (b4 p b w ho q hq sq).1
      · rcases hp with hp | hp
        · exact absurd hp b
        · by_cases bq : B q
          · exact Or.inl bq
          · exact Or.inr (hV.2.2.1 p hp ho q hq ⟨sq, bq⟩)
  · intro q wq hq hR
    have hS : ∀ p, (B p ∨ V p) → S p := by
      rintro p (h | h)
      · exact b1 p h
      · exact (hV.1 p h).1
    rcases qr_sep (A := B) (fun a b e ha => by
      by_cases w : W a
      · exact hWB b (hWW a b w (hS b e.2.1) e.2.2)
      · exact (hBB a b ha w (hS b e.2.1) e.2.2).1) hR with ⟨bq, h⟩ | ⟨nq, h⟩
    · rcases qr_sep (A := W) (fun a b e ha => hWW a b ha (hS b e.1.2.1) e.1.2.2) h with ⟨w, h⟩ | ⟨w, h⟩
      · refine hW.2.2.2 q w hq (qr_mono ?_ (fun _ z => z) h)
        rintro a b ⟨⟨⟨_, _, e⟩, _, _⟩, wa, wb⟩
        refine ⟨wa, wb, ?_⟩
        rw [← (ht a).1 wa]
        exact e
      · exact absurd (qr_dec (rk := rk) (fun a b e => (hBB a b e.1.2.1 e.2.1 (hS b e.1.1.2.1) e.1.1.2.2).2) h) (Nat.lt_irrefl _)
    · have vq : V q := by
        rcases wq with z | z
        · exact absurd z nq
        · exact z
      refine hV.2.2.2 q vq hq (qr_mono ?_ (fun _ z => z) h)
      rintro a b ⟨⟨va, vb, e⟩, na, nb⟩
      refine ⟨va.resolve_left na, vb.resolve_left nb, ?_⟩
      rw [← (ht a).2.2 na (fun w => na (hWB a w))]
      exact e
theorem qd_main : ∀ n (S : Nat → Prop), qd_cnt S 8 ≤ n → (∀ p, S p → p < 8) → (∀ p, S p → S (fi p) ∨ S (se p)) → ∀ i, qd_Det own fi se col S i := by
  intro n
  induction n using Nat.strongRecOn with
  | ind n ih =>
    intro S hn h8 hS i0
    by_cases hE : ∃ p, p < 8 ∧ S p
    · obtain ⟨m, hm, sm, hmax⟩ := qd_max S col 8 hE
      have hd : ∀ p, S p → col p ≤ col m := fun p sp => hmax p (h8 p sp) sp
      apply qd_flip own fi se col S (i := qg_par (col m))
      obtain ⟨A, rk, al, a1, a2, a3, a4, a5, a6⟩ := qd_attr own fi se S (fun p => col p = col m) (qg_par (col m)) hS
      have hlt : qd_cnt (fun p => S p ∧ ¬ A p) 8 < qd_cnt S 8 := qd_cnt_lt (fun p h => h.1) sm (fun h => h.2 (a2 m sm rfl)) 8 hm
      obtain ⟨Wi, si, Wo, so, hWi, hWo, hall⟩ := ih (qd_cnt (fun p => S p ∧ ¬ A p) 8) (by omega) (fun p => S p ∧ ¬ A p) (Nat.le_refl _) (fun p h => h8 p h.1) (fun p h => a6 p h.1 h.2) (qg_par (col m))
      by_cases hO : ∃ p, Wo p
      · obtain ⟨w, hw⟩ := hO
        obtain ⟨B, rb, be, b1, b2, b3, b4, b5, b6⟩ := qd_attr own fi se S Wo (!qg_par (col m)) hS
        have sw := (hWo.1 w hw).1
        have hlt2 : qd_cnt (fun p => S p ∧ ¬ B p) 8 < qd_cnt S 8 := qd_cnt_lt (fun p h => h.1) sw (fun h => h.2 (b2 w sw hw)) 8 (h8 w sw)
        obtain ⟨Vi, ti, Vo, to, hVi, hVo, hall2⟩ := ih (qd_cnt (fun p => S p ∧ ¬ B p) 8) (by omega) (fun p => S p ∧ ¬ B p) (Nat.le_refl _) (fun p h => h8 p h.1) (fun p h => b6 p h.1 h.2) (qg_par (col m))
        obtain ⟨tu, htu⟩ := qd_case2 own fi se col S (qg_par (col m)) A a5 Wo so hWo B rb be b1 b2 b3 b4 Vo to hVo
        refine ⟨Vi, ti, fun p => B p ∨ Vo p, tu, ⟨fun p h => (hVi.1 p h).1, hVi.2.1, ?_, hVi.2.2.2⟩, htu, ?_⟩
        · intro p vp ho q hq sq
          refine hVi.2.2.1 p vp ho q hq ⟨sq, ?_⟩
          have nb := b5 p (hVi.1 p vp).1 (hVi.1 p vp).2 (qd_ne ho)
          rcases hq with hq | hq
          · rw [hq]; exact nb.1
          · rw [hq]; exact nb.2
        · intro p sp
          by_cases b : B p
          · exact Or.inr (Or.inl b)
          · rcases hall2 p ⟨sp, b⟩ with z | z
            · exact Or.inl z
            · exact Or.inr (Or.inr z)
      · have hall' : ∀ p, S p → ¬ A p → Wi p := by
          intro p sp na
          rcases hall p ⟨sp, na⟩ with z | z
          · exact z
          · exact absurd ⟨p, z⟩ hO
        obtain ⟨tu, htu⟩ := qd_case1 own fi se col S hS (col m) hd (qg_par (col m)) rfl A rk al a1 a3 a4 Wi si hWi hall'
        exact ⟨S, tu, fun _ => False, fun _ => false, htu, ⟨fun _ z => z.elim, fun _ z => z.elim, fun _ z => z.elim, fun _ z => z.elim⟩, fun p sp => Or.inl sp⟩
    · exact ⟨fun _ => False, fun _ => false, fun _ => False, fun _ => false, ⟨fun _ z => z.elim, fun _ z => z.elim, fun _ z => z.elim, fun _ z => z.elim⟩, ⟨fun _ z => z.elim, fun _ z => z.elim, fun _ z => z.elim, fun _ z => z.elim⟩, fun p sp => absurd ⟨p, h8 p sp, sp⟩ hE⟩
theorem qd_won (W : Nat → Prop) (j : Bool) (sg : Nat → Bool) (hfi : ∀ p, p < 8 → fi p < 8) (hse : ∀ p, p < 8 → se p < 8) (hW : qd_Win own fi se col (fun p => p < 8) W j sg) (p : Nat) (hp : W p) : qg_Won own fi se col j sg p := by
  have hst : ∀ a b, qg_E own fi se j sg a b → W a → W b := by
    rintro a b ⟨ha, e⟩ wa
    rcases e with e | e
    · rw [e.2]; exact hW.2.1 a wa e.1
    · refine hW.2.2.1 a wa e.1 b e.2 ?_
      rcases e.2 with z | z
      · rw [z]; exact hfi a ha
      · rw [z]; exact hse a ha
  rintro ⟨q, hq, ⟨hb, hc⟩, hr⟩
  have wq : W q := hr (fun a b => W a → W b) hst (fun _ _ _ h1 _ h2 wa => h2 (h1 wa)) hp
  have hc2 := hc (fun a b => W a → W b ∧ qr_R (qd_Ed own fi se W j sg) (fun b => col b ≤ col q) a b)
    (fun a b e wa => ⟨hst a b e wa, qr_e ⟨wa, hst a b e wa, e.2⟩⟩)
    (fun a b c h1 hb h2 wa => ⟨(h2 (h1 wa).1).1, qr_c (h1 wa).2 hb.2 (h2 (h1 wa).1).2⟩) wq
  exact hW.2.2.2 q wq hb hc2.2
end
