theorem qp_pig : ∀ n (f : Nat → Nat), (∀ i, i ≤ n → f i < n) → ∃ i j, i < j ∧ j ≤ n ∧ f i = f j
  | 0, f, h => absurd (h 0 (Nat.le_refl _)) (Nat.not_lt_zero _)
  | n + 1, f, h => by
    by_cases e : ∃ i, i ≤ n ∧ f i = f (n + 1)
    · obtain ⟨i, hi, ei⟩ := e
      exact ⟨i, n + 1, by omega, Nat.le_refl _, ei⟩
    · have hne : ∀ i, i ≤ n → f i ≠ f (n + 1) := fun i hi z => e ⟨i, hi, z⟩
      obtain ⟨i, j, hij, hj, eij⟩ := qp_pig n (fun i => if f i = n then f (n + 1) else f i) (by
        intro i hi
        have h1 := h i (by omega)
        have h2 := h (n + 1) (Nat.le_refl _)
        have h3 := hne i hi
        by_cases c : f i = n
        · rw [if_pos c]; omega
        · rw [if_neg c]; omega)
      refine ⟨i, j, hij, by omega, ?_⟩
      have h1 := hne i (by omega)
      have h2 := hne j (by omega)
      by_cases c : f i = n <;> by_cases d : f j = n
      · omega
      · rw [if_pos c, if_neg d] at eij; exact absurd eij.symm h2
      · rw [if_neg c, if_pos d] at eij; exact absurd eij h1
      · rw [if_neg c, if_neg d] at eij; exact eij
def qp_it (nx : Nat → Nat) (p : Nat) : Nat → Nat
  | 0 => p
  | n + 1 => nx (qp_it nx p n)
theorem qp_per (nx : Nat → Nat) (p : Nat) {a b : Nat} (e : qp_it nx p a = qp_it nx p b) : ∀ t, qp_it nx p (a + t) = qp_it nx p (b + t)
  | 0 => e
  | t + 1 => by
    show nx (qp_it nx p (a + t)) = nx (qp_it nx p (b + t))
    rw [qp_per nx p e t]
/-- the play from p that keeps to nx ends in a round trip: q is its place of greatest colour -/
theorem qp_trip (nx : Nat → Nat) (col : Nat → Nat) (hnx : ∀ p, p < 8 → nx p < 8) (p : Nat) (hp : p < 8) :
    ∃ q, q < 8 ∧ (∀ E : Nat → Nat → Prop, (∀ a, a < 8 → E a (nx a)) → qr_R E (fun b => b < 8) p q ∧ qr_R E (fun b => b < 8 ∧ col b ≤ col q) q q) := by
  have h8 : ∀ n, qp_it nx p n < 8 := by
    intro n
    induction n with
    | zero => exact hp
    | succ n ih => exact hnx _ ih
  obtain ⟨a, b, hab, _, e⟩ := qp_pig 8 (qp_it nx p) (fun i _ => h8 i)
  obtain ⟨m, hm, ham, hmax⟩ := qd_max (fun k => a ≤ k) (fun k => col (qp_it nx p k)) b ⟨a, hab, Nat.le_refl _⟩
  have ham' : a ≤ m := ham
  have hcol : ∀ j, a ≤ j → col (qp_it nx p j) ≤ col (qp_it nx p m) := by
    intro j
    induction j using Nat.strongRecOn with
    | ind j ih =>
      intro haj
      by_cases hjb : j < b
      · exact hmax j hjb haj
      · have e2 := qp_per nx p e (j - b)
        have e3 : b + (j - b) = j := by omega
        rw [e3] at e2
        rw [← e2]
        exact ih _ (by omega) (by omega)
  have hpath : ∀ (E : Nat → Nat → Prop) (M : Nat → Prop) (s : Nat), (∀ a, a < 8 → E a (nx a)) → (∀ j, s ≤ j → M (qp_it nx p j)) → ∀ k, qr_R E M (qp_it nx p s) (qp_it nx p (s + k + 1)) := by
    intro E M s hE hM k
    induction k with
    | zero => exact qr_e (hE _ (h8 s))
    | succ k ih => exact qr_c ih (hM _ (by omega)) (qr_e (hE _ (h8 _)))
  have hq : qp_it nx p (m + (b - a - 1) + 1) = qp_it nx p m := by
    have e2 := qp_per nx p e (m - a)
    have e3 : a + (m - a) = m := by omega
    have e4 : b + (m - a) = m + (b - a - 1) + 1 := by omega
    rw [e3, e4] at e2
    exact e2.symm
  refine ⟨qp_it nx p m, h8 m, fun E hE => ⟨?_, ?_⟩⟩
  · have := hpath E (fun b => b < 8) 0 hE (fun j _ => h8 j) (m + (b - a - 1))
    rw [Nat.zero_add, hq] at this
    exact this
  · have := hpath E (fun b => b < 8 ∧ col b ≤ col (qp_it nx p m)) m hE (fun j hj => ⟨h8 j, hcol j (by omega)⟩) (b - a - 1)
    rw [hq] at this
    exact this
section
variable (own : Nat → Bool) (fi se col : Nat → Nat)
theorem qp_dis (hfi : ∀ p, p < 8 → fi p < 8) (hse : ∀ p, p < 8 → se p < 8) (s t : Nat → Bool) (p : Nat) (hp : p < 8)
    (h0 : qg_Won own fi se col false s p) (h1 : qg_Won own fi se col true t p) : False := by
  obtain ⟨q, hq, hR⟩ := qp_trip (fun p => if own p = false then qg_mv fi se p (s p) else qg_mv fi se p (t p)) col (by
    intro p hp
    have hmv : ∀ b, qg_mv fi se p b < 8 := by
      intro b
      unfold qg_mv
      cases b
      · exact hfi p hp
      · exact hse p hp
    by_cases c : own p = false
    · rw [if_pos c]; exact hmv _
    · rw [if_neg c]; exact hmv _) p hp
  have hmv : ∀ p b, qg_mv fi se p b = fi p ∨ qg_mv fi se p b = se p := by
    intro p b
    cases b
    · exact Or.inl rfl
    · exact Or.inr rfl
  have e0 := hR (qg_E own fi se false s) (by
    intro a ha
    refine ⟨ha, ?_⟩
    by_cases c : own a = false
    · rw [if_pos c]; exact Or.inl ⟨c, rfl⟩
    · rw [if_neg c]; exact Or.inr ⟨c, hmv _ _⟩)
  have e1 := hR (qg_E own fi se true t) (by
    intro a ha
    refine ⟨ha, ?_⟩
    by_cases c : own a = false
    · rw [if_pos c]; exact Or.inr ⟨by rw [c]; decide, hmv _ _⟩
    · rw [if_neg c]; exact Or.inl ⟨by cases h : own a <;> simp_all, rfl⟩)
  cases hpar : qg_par (col q)
  · exact h1 ⟨q, hq, ⟨by rw [hpar]; decide, e1.2⟩, e1.1⟩
  · exact h0 ⟨q, hq, ⟨by rw [hpar]; decide, e0.2⟩, e0.1⟩
/-- the positions from which player 0 wins: by some plan -/
def qp_W0 (p : Nat) : Prop := ∃ c, c < 256 ∧ qg_Won own fi se col false (bt (nI c)) p
def qp_due (pl : Bool) (p : Nat) : Prop := if pl = true then ¬ qp_W0 own fi se col p else qp_W0 own fi se col p
def qp_good (pl : Bool) (ch : Nat → Bool) : Prop := ∀ p, p < 8 → qp_due own fi se col pl p → qg_Won own fi se col pl ch p
theorem qp_some (hfi : ∀ p, p < 8 → fi p < 8) (hse : ∀ p, p < 8 → se p < 8) (pl : Bool) : ∃ c, c < 256 ∧ qp_good own fi se col pl (bt (nI c)) := by
  obtain ⟨W0, s, W1, t, h0, h1, hall⟩ := qd_main own fi se col 8 (fun p => p < 8) (by
    have : ∀ (S : Nat → Prop) k, qd_cnt S k ≤ k := by
      intro S k
      induction k with
      | zero => exact Nat.le_refl _
      | succ k ih =>
        unfold qd_cnt
        by_cases c : S k
        · rw [if_pos c]; omega
        · rw [if_neg c]; omega
    exact this _ 8) (fun _ h => h) (fun p hp => Or.inl (hfi p hp)) false
  have w0 := qd_won own fi se col W0 false s hfi hse h0
  have w1 := qd_won own fi se col W1 true t hfi hse h1
  obtain ⟨c0, hc0, e0⟩ := qb_ch s
  obtain ⟨c1, hc1, e1⟩ := qb_ch t
  have w0' : ∀ p, W0 p → qg_Won own fi se col false (bt (nI c0)) p := fun p h => (qg_Won_c (fun _ _ => rfl) (fun p hp _ => e0 p hp) p).mpr (w0 p h)
  have w1' : ∀ p, W1 p → qg_Won own fi se col true (bt (nI c1)) p := fun p h => (qg_Won_c (fun _ _ => rfl) (fun p hp _ => e1 p hp) p).mpr (w1 p h)
  cases pl
  · refine ⟨c0, hc0, fun p hp hd => ?_⟩
    obtain ⟨c, _, hw⟩ : qp_W0 own fi se col p := hd
    rcases hall p hp with z | z
    · exact w0' p z
    · exact (qp_dis own fi se col hfi hse _ _ p hp hw (w1 p z)).elim
  · refine ⟨c1, hc1, fun p hp hd => ?_⟩
    have hd' : ¬ qp_W0 own fi se col p := hd
    rcases hall p hp with z | z
    · exact absurd ⟨c0, hc0, w0' p z⟩ hd'
    · exact w1' p z
end
theorem qp_W0_c {own own' : Nat → Bool} {fi se col : Nat → Nat} (ho : ∀ p, p < 8 → own p = own' p) (p : Nat) : qp_W0 own fi se col p ↔ qp_W0 own' fi se col p := by
  unfold qp_W0
  constructor
  · rintro ⟨c, hc, h⟩
    exact ⟨c, hc, (qg_Won_c ho (fun _ _ _ => rfl) p).mp h⟩
  · rintro ⟨c, hc, h⟩
    exact ⟨c, hc, (qg_Won_c ho (fun _ _ _ => rfl) p).mpr h⟩
theorem qp_due_c {own own' : Nat → Bool} {fi se col : Nat → Nat} (ho : ∀ p, p < 8 → own p = own' p) (pl : Bool) (p : Nat) : qp_due own fi se col pl p ↔ qp_due own' fi se col pl p := by
  unfold qp_due
  cases pl
  · exact qp_W0_c ho p
  · exact not_congr (qp_W0_c ho p)
theorem qp_good_c {own own' : Nat → Bool} {fi se col : Nat → Nat} (ho : ∀ p, p < 8 → own p = own' p) (pl : Bool) (ch : Nat → Bool) : qp_good own fi se col pl ch ↔ qp_good own' fi se col pl ch := by
  unfold qp_good
  constructor
  · intro h p hp hd
    exact (qg_Won_c ho (fun _ _ _ => rfl) p).mp (h p hp ((qp_due_c ho pl p).mpr hd))
  · intro h p hp hd
    exact (qg_Won_c ho (fun _ _ _ => rfl) p).mpr (h p hp ((qp_due_c ho pl p).mp hd))
