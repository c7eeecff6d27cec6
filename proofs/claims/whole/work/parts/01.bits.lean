def bt (x : Int32) (i : Nat) : Bool := x.toBitVec.getLsbD i
theorem b_ext {x y : Int32} (h : ∀ i, i < 32 → bt x i = bt y i) : x = y := Int32.toBitVec_inj.mp (BitVec.eq_of_getLsbD_eq (fun i hi => h i hi))
theorem b_or (x y : Int32) (i : Nat) : bt (x ||| y) i = (bt x i || bt y i) := by unfold bt; rw [Int32.toBitVec_or, BitVec.getLsbD_or]
theorem b_and (x y : Int32) (i : Nat) : bt (x &&& y) i = (bt x i && bt y i) := by unfold bt; rw [Int32.toBitVec_and, BitVec.getLsbD_and]
theorem b_xor (x y : Int32) (i : Nat) : bt (x ^^^ y) i = (bt x i ^^ bt y i) := by unfold bt; rw [Int32.toBitVec_xor, BitVec.getLsbD_xor]
theorem b_big {x : Int32} {i : Nat} (h : 32 ≤ i) : bt x i = false := BitVec.getLsbD_of_ge _ _ h
theorem b_255 (i : Nat) : bt 255 i = decide (i < 8) := by
  rcases Nat.lt_or_ge i 32 with h | h
  · exact (by decide +kernel : ∀ i, i < 32 → bt 255 i = decide (i < 8)) i h
  · rw [b_big h, decide_eq_false (by omega)]
theorem b_m1 : ∀ i, i < 32 → bt (-1) i = true := by decide +kernel
theorem b_0 (i : Nat) : bt 0 i = false := BitVec.getLsbD_zero
theorem s_l : ∀ n, n < 32 → ((nI n &&& 31).toBitVec.smod 32).toNat = n := by decide +kernel
theorem b_shl (n : Nat) (hn : n < 32) (x : Int32) {i : Nat} (hi : i < 32) : bt (x <<< (nI n &&& 31)) i = (decide (n ≤ i) && bt x (i - n)) := by
  unfold bt
  rw [Int32.toBitVec_shiftLeft]
  show (x.toBitVec <<< ((nI n &&& 31).toBitVec.smod 32).toNat).getLsbD i = _
  rw [s_l n hn, BitVec.getLsbD_shiftLeft]
  rcases Nat.lt_or_ge i n with h | h
  · simp [h, Nat.not_le.mpr h]
  · simp [hi, h, Nat.not_lt.mpr h]
theorem b_sshr (n : Nat) (hn : n < 32) (x : Int32) {i : Nat} (hi : i < 32) : bt (x >>> (nI n &&& 31)) i = if n + i < 32 then bt x (n + i) else bt x 31 := by
  unfold bt
  rw [Int32.toBitVec_shiftRight]
  show (x.toBitVec.sshiftRight ((nI n &&& 31).toBitVec.smod 32).toNat).getLsbD i = _
  rw [s_l n hn, BitVec.getLsbD_sshiftRight, BitVec.msb_eq_getLsbD_last]
  simp [hi]
theorem pk_le {x y : Int32} {A B : Prop} (a b : Nat) (f : a ≤ b → A) (g : b < a → B) (hx : x = nI a := by rfl) (hy : y = nI b := by rfl) (ha : a < 2 ^ 31 := by omega) (hb : b < 2 ^ 31 := by omega) : (x ≤ y → A) ∧ (¬ x ≤ y → B) := by
  subst hx hy
  rw [nI_leI ha hb]
  exact ⟨f, fun z => g (by omega)⟩
theorem pk_lt {x y : Int32} {A B : Prop} (a b : Nat) (f : a < b → A) (g : b ≤ a → B) (hx : x = nI a := by rfl) (hy : y = nI b := by rfl) (ha : a < 2 ^ 31 := by omega) (hb : b < 2 ^ 31 := by omega) : (x < y → A) ∧ (¬ x < y → B) := by
  subst hx hy
  rw [nI_ltI ha hb]
  exact ⟨f, fun z => g (by omega)⟩
theorem pk_eq {x y : Int32} {A B : Prop} (a b : Nat) (f : a = b → A) (g : a ≠ b → B) (hx : x = nI a := by rfl) (hy : y = nI b := by rfl) (ha : a < 2 ^ 31 := by omega) (hb : b < 2 ^ 31 := by omega) : (x = y → A) ∧ (¬ x = y → B) := by
  subst hx hy
  rw [nI_eq ha hb]
  exact ⟨f, g⟩
theorem pk_in {x : Int32} (n N : Nat) (h : n < N) (hx : x = nI n := by rfl) (hN : N < 2 ^ 31 := by omega) : vp_in x N := by
  subst hx
  exact vp_in_nI h hN
theorem pk_cl {x : Int32} (n : Nat) (hx : x = nI n := by rfl) (h : n < 2 ^ 31 := by omega) : x.toNatClampNeg = n := by
  subst hx
  exact nI_clamp h
theorem pk_tn {n : Nat} (h : n < 2 ^ 32) : (nI n).toBitVec.toNat = n := Nat.mod_eq_of_lt h
theorem pk_and (x : Int32) {m : Int32} (k : Nat) (hm : m.toBitVec.toNat = 2 ^ k - 1) : x &&& m = nI (x.toBitVec.toNat % 2 ^ k) := by
  apply Int32.toBitVec_inj.mp
  apply BitVec.eq_of_toNat_eq
  rw [Int32.toBitVec_and, BitVec.toNat_and, hm, Nat.and_two_pow_sub_one_eq_mod]
  show _ = (BitVec.ofNat 32 _).toNat
  rw [BitVec.toNat_ofNat]
  exact (Nat.mod_eq_of_lt (Nat.lt_of_le_of_lt (Nat.mod_le _ _) x.toBitVec.isLt)).symm
theorem pk_andN {n : Nat} (h : n < 2 ^ 32) {m : Int32} (k : Nat) (hm : m.toBitVec.toNat = 2 ^ k - 1) : nI n &&& m = nI (n % 2 ^ k) := by
  rw [pk_and _ k hm, pk_tn h]
theorem pk_andE (x : Int32) {m : Int32} (k : Nat) (hm : m.toBitVec.toNat = 2 ^ k - 1) : ∃ j : Nat, j < 2 ^ k ∧ x &&& m = nI j := ⟨_, Nat.mod_lt _ (Nat.two_pow_pos k), pk_and x k hm⟩
theorem pk_andIn (x : Int32) {m : Int32} (k : Nat) (hm : m.toBitVec.toNat = 2 ^ k - 1) (hk : k ≤ 30) : vp_in (x &&& m) (2 ^ k) := by
  obtain ⟨j, hj, e⟩ := pk_andE x k hm
  rw [e]
  exact vp_in_nI hj (Nat.lt_of_le_of_lt (Nat.pow_le_pow_right (by decide) hk) (by decide))
theorem pk_least (P : Nat → Prop) (h : ∃ k, P k) : ∃ k, P k ∧ ∀ j, j < k → ¬ P j := by
  obtain ⟨k, hk⟩ := h
  induction k using Nat.strongRecOn with
  | ind k ih =>
    by_cases e : ∃ j, j < k ∧ P j
    · obtain ⟨j, hj, pj⟩ := e
      exact ih j hj pj
    · exact ⟨k, hk, fun j hj pj => e ⟨j, hj, pj⟩⟩
theorem qb_one : ∀ m, m < 32 → ∀ i, i < 32 → bt ((1 : Int32) <<< (nI m &&& 31)) i = decide (i = m) := by decide +kernel
theorem qb_1 : ∀ i, i < 32 → bt 1 i = decide (i = 0) := by decide +kernel
theorem qb_z (x y : Int32) : (x &&& y) = 0 ↔ ∀ i, i < 32 → ¬ (bt x i = true ∧ bt y i = true) := by
  constructor
  · intro h i _ hb
    have e := b_and x y i
    rw [h, b_0, hb.1, hb.2] at e
    exact absurd e (by decide)
  · intro h
    apply b_ext
    intro i hi
    rw [b_and, b_0]
    have := h i hi
    cases hx : bt x i <;> cases hy : bt y i <;> simp_all
theorem qb_con (x : Int32) {m : Nat} (hm : m < 32) : (x &&& ((1 : Int32) <<< (nI m &&& 31))) = 0 ↔ bt x m = false := by
  rw [qb_z]
  constructor
  · intro h
    have := h m hm
    rw [qb_one m hm m hm] at this
    cases hx : bt x m
    · rfl
    · exact absurd ⟨hx, by simp⟩ this
  · intro h i hi hb
    rw [qb_one m hm i hi] at hb
    have e : i = m := of_decide_eq_true hb.2
    subst e
    rw [h] at hb
    exact absurd hb.1 (by decide)
theorem qb_bit (x : Int32) {m : Nat} (hm : m < 32) : (x >>> (nI m &&& 31)) &&& 1 = if bt x m = true then 1 else 0 := by
  apply b_ext
  intro i hi
  rw [b_and, b_sshr m hm x hi, qb_1 i hi]
  by_cases h0 : i = 0
  · subst h0
    rw [Nat.add_zero, if_pos hm]
    cases hx : bt x m
    · simp [b_0]
    · simp [qb_1]
  · cases hx : bt x m
    · simp [b_0, h0]
    · simp [qb_1 i hi, h0]
theorem qb_bit1 (x : Int32) {m : Nat} (hm : m < 32) : (x >>> (nI m &&& 31)) &&& 1 = 1 ↔ bt x m = true := by
  rw [qb_bit x hm]
  cases hx : bt x m
  · exact ⟨fun z => absurd z (by decide), fun z => absurd z (by decide)⟩
  · exact ⟨fun _ => rfl, fun _ => rfl⟩
theorem qb_bit0 (x : Int32) {m : Nat} (hm : m < 32) : (x >>> (nI m &&& 31)) &&& 1 = 0 ↔ bt x m = false := by
  rw [qb_bit x hm]
  cases hx : bt x m
  · exact ⟨fun _ => rfl, fun _ => rfl⟩
  · exact ⟨fun z => absurd z (by decide), fun z => absurd z (by decide)⟩
theorem qb_not (r : Int32) {i : Nat} (hi : i < 32) : bt (255 &&& (r ^^^ (-1))) i = (decide (i < 8) && !bt r i) := by
  rw [b_and, b_255, b_xor, b_m1 i hi]
  cases bt r i <;> rfl
theorem qb_sub (p r : Int32) : (p &&& (r ^^^ (-1))) = 0 ↔ ∀ i, i < 32 → bt p i = true → bt r i = true := by
  rw [qb_z]
  constructor
  · intro h i hi hp
    have := h i hi
    rw [b_xor, b_m1 i hi] at this
    cases hr : bt r i
    · rw [hr] at this
      exact absurd ⟨hp, rfl⟩ this
    · rfl
  · intro h i hi hb
    rw [b_xor, b_m1 i hi, h i hi hb.1] at hb
    exact absurd hb.2 (by decide)
/-- the mask r holds just the positions below 8 with P -/
def qb_Is (r : Int32) (P : Nat → Prop) : Prop := ∀ i, i < 32 → (bt r i = true ↔ i < 8 ∧ P i)
theorem qb_Is_eq {r r' : Int32} {P P' : Nat → Prop} (h : qb_Is r P) (h' : qb_Is r' P') (e : ∀ i, i < 8 → (P i ↔ P' i)) : r' = r := by
  apply b_ext
  intro i hi
  have a := h i hi
  have b := h' i hi
  by_cases h8 : i < 8
  · have c := e i h8
    cases hx : bt r i <;> cases hy : bt r' i <;> simp_all
  · cases hx : bt r i <;> cases hy : bt r' i <;> simp_all
theorem qb_Is_c {r : Int32} {P P' : Nat → Prop} (h : qb_Is r P) (e : ∀ i, i < 8 → (P i ↔ P' i)) : qb_Is r P' := by
  intro i hi
  rw [h i hi]
  exact ⟨fun z => ⟨z.1, (e i z.1).mp z.2⟩, fun z => ⟨z.1, (e i z.1).mpr z.2⟩⟩
theorem qb_Is_0 {P : Nat → Prop} (e : ∀ i, i < 8 → ¬ P i) : qb_Is 0 P := by
  intro i hi
  rw [b_0]
  exact ⟨fun z => absurd z (by decide), fun z => absurd z.2 (e i z.1)⟩
theorem qb_Is_or {r s : Int32} {P Q : Nat → Prop} (h : qb_Is r P) (h' : qb_Is s Q) : qb_Is (r ||| s) (fun i => P i ∨ Q i) := by
  intro i hi
  have a := h i hi
  have b := h' i hi
  rw [b_or, Bool.or_eq_true, a, b]
  constructor
  · rintro (z | z)
    · exact ⟨z.1, Or.inl z.2⟩
    · exact ⟨z.1, Or.inr z.2⟩
  · rintro ⟨z, w | w⟩
    · exact Or.inl ⟨z, w⟩
    · exact Or.inr ⟨z, w⟩
theorem qb_Is_1 {m : Nat} (hm : m < 8) : qb_Is ((1 : Int32) <<< (nI m &&& 31)) (fun i => i = m) := by
  intro i hi
  rw [qb_one m (by omega) i hi, decide_eq_true_iff]
  exact ⟨fun z => ⟨by omega, z⟩, fun z => z.2⟩
theorem qb_Is_not {r : Int32} {P : Nat → Prop} (h : qb_Is r P) : qb_Is (255 &&& (r ^^^ (-1))) (fun i => ¬ P i) := by
  intro i hi
  rw [qb_not r hi, Bool.and_eq_true, decide_eq_true_iff]
  have a := h i hi
  constructor
  · rintro ⟨h8, hb⟩
    refine ⟨h8, fun hp => ?_⟩
    rw [a.mpr ⟨h8, hp⟩] at hb
    exact absurd hb (by decide)
  · rintro ⟨h8, hp⟩
    refine ⟨h8, ?_⟩
    cases hx : bt r i
    · rfl
    · exact absurd (a.mp hx).2 hp
theorem qb_Is_and0 {r s : Int32} {P Q : Nat → Prop} (h : qb_Is r P) (h' : qb_Is s Q) : (r &&& s) = 0 ↔ ¬ ∃ i, i < 8 ∧ P i ∧ Q i := by
  rw [qb_z]
  constructor
  · rintro z ⟨i, h8, p, q⟩
    exact z i (by omega) ⟨(h i (by omega)).mpr ⟨h8, p⟩, (h' i (by omega)).mpr ⟨h8, q⟩⟩
  · intro z i hi hb
    have a := (h i hi).mp hb.1
    have b := (h' i hi).mp hb.2
    exact z ⟨i, a.1, a.2, b.2⟩
theorem qb_Is_sub {r s : Int32} {P Q : Nat → Prop} (h : qb_Is r P) (h' : qb_Is s Q) : (r &&& (s ^^^ (-1))) = 0 ↔ ∀ i, i < 8 → P i → Q i := by
  rw [qb_sub]
  constructor
  · intro z i h8 p
    exact ((h' i (by omega)).mp (z i (by omega) ((h i (by omega)).mpr ⟨h8, p⟩))).2
  · intro z i hi hb
    have a := (h i hi).mp hb
    exact (h' i hi).mpr ⟨a.1, z i a.1 a.2⟩
theorem qb_small (x : Int32) (h : ∀ i, i < 32 → bt x i = true → i < 8) : ∃ c, c < 256 ∧ x = nI c := by
  obtain ⟨j, hj, e⟩ := pk_andE x (m := 255) 8 (by decide)
  refine ⟨j, hj, ?_⟩
  rw [← e]
  apply b_ext
  intro i hi
  rw [b_and, b_255]
  cases hx : bt x i
  · rfl
  · simp [h i hi hx]
def qb_val (s : Nat → Bool) : Nat := (s 0).toNat + 2 * (s 1).toNat + 4 * (s 2).toNat + 8 * (s 3).toNat + 16 * (s 4).toNat + 32 * (s 5).toNat + 64 * (s 6).toNat + 128 * (s 7).toNat
theorem qb_tab : ∀ b0 b1 b2 b3 b4 b5 b6 b7 : Bool, (fun c : Nat => c < 256 ∧ bt (nI c) 0 = b0 ∧ bt (nI c) 1 = b1 ∧ bt (nI c) 2 = b2 ∧ bt (nI c) 3 = b3 ∧ bt (nI c) 4 = b4 ∧ bt (nI c) 5 = b5 ∧ bt (nI c) 6 = b6 ∧ bt (nI c) 7 = b7) (b0.toNat + 2 * b1.toNat + 4 * b2.toNat + 8 * b3.toNat + 16 * b4.toNat + 32 * b5.toNat + 64 * b6.toNat + 128 * b7.toNat) := by
  dsimp only
  decide +kernel
theorem qb_ch (s : Nat → Bool) : ∃ c, c < 256 ∧ ∀ p, p < 8 → bt (nI c) p = s p := by
  have h := qb_tab (s 0) (s 1) (s 2) (s 3) (s 4) (s 5) (s 6) (s 7)
  dsimp only at h
  refine ⟨_, h.1, ?_⟩
  obtain ⟨_, h0, h1, h2, h3, h4, h5, h6, h7⟩ := h
  intro p hp
  match p, hp with
  | 0, _ => exact h0
  | 1, _ => exact h1
  | 2, _ => exact h2
  | 3, _ => exact h3
  | 4, _ => exact h4
  | 5, _ => exact h5
  | 6, _ => exact h6
  | 7, _ => exact h7
