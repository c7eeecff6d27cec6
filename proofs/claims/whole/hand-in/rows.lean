section
def bt (x : Int32) (i : Nat) : Bool := x.toBitVec.getLsbD i
theorem b_ext {x y : Int32} (h : ∀ i, i < 32 → bt x i = bt y i) : x = y := Int32.toBitVec_inj.mp (BitVec.eq_of_getLsbD_eq (fun i hi => h i hi))
theorem b_or (x y : Int32) (i : Nat) : bt (x ||| y) i = (bt x i || bt y i) := by unfold bt; rw [Int32.toBitVec_or, BitVec.getLsbD_or]
theorem b_and (x y : Int32) (i : Nat) : bt (x &&& y) i = (bt x i && bt y i) := by unfold bt; rw [Int32.toBitVec_and, BitVec.getLsbD_and]
theorem b_xor (x y : Int32) (i : Nat) : bt (x ^^^ y) i = (bt x i ^^ bt y i) := by unfold bt; rw [Int32.toBitVec_xor, BitVec.getLsbD_xor]
theorem b_big {x : Int32} {i : Nat} (h : 32 ≤ i) : bt x i = false := BitVec.getLsbD_of_ge _ _ h
theorem b_255 (i : Nat) : bt 255 i = decide (i < 8) := by
  rcases Nat.lt_or_ge i 32 with h | h
  · exact (by decide +kernel : ∀ i, i < 32 → bt 255 i = decide (i < 8)) i h
  · rw [b_big h, decide_eq_false (by omega)]
theorem b_m1 : ∀ i, i < 32 → bt (-1) i = true := by decide +kernel
theorem b_0 (i : Nat) : bt 0 i = false := BitVec.getLsbD_zero
theorem s_l : ∀ n, n < 32 → ((nI n &&& 31).toBitVec.smod 32).toNat = n := by decide +kernel
theorem b_shl (n : Nat) (hn : n < 32) (x : Int32) {i : Nat} (hi : i < 32) : bt (x <<< (nI n &&& 31)) i = (decide (n ≤ i) && bt x (i - n)) := by
  unfold bt
  rw [Int32.toBitVec_shiftLeft]
  show (x.toBitVec <<< ((nI n &&& 31).toBitVec.smod 32).toNat).getLsbD i = _
  rw [s_l n hn, BitVec.getLsbD_shiftLeft]
  rcases Nat.lt_or_ge i n with h | h
  · simp [h, Nat.not_le.mpr h]
  · simp [hi, h, Nat.not_lt.mpr h]
theorem b_sshr (n : Nat) (hn : n < 32) (x : Int32) {i : Nat} (hi : i < 32) : bt (x >>> (nI n &&& 31)) i = if n + i < 32 then bt x (n + i) else bt x 31 := by
  unfold bt
  rw [Int32.toBitVec_shiftRight]
  show (x.toBitVec.sshiftRight ((nI n &&& 31).toBitVec.smod 32).toNat).getLsbD i = _
  rw [s_l n hn, BitVec.getLsbD_sshiftRight, BitVec.msb_eq_getLsbD_last]
  simp [hi]
theorem pk_le {x y : Int32} {A B : Prop} (a b : Nat) (f : a ≤ b → A) (g : b < a → B) (hx : x = nI a := by rfl) (hy : y = nI b := by rfl) (ha : a < 2 ^ 31 := by omega) (hb : b < 2 ^ 31 := by omega) : (x ≤ y → A) ∧ (¬ x ≤ y → B) := by
  subst hx hy
  rw [nI_leI ha hb]
  exact ⟨f, fun z => g (by omega)⟩
theorem pk_lt {x y : Int32} {A B : Prop} (a b : Nat) (f : a < b → A) (g : b ≤ a → B) (hx : x = nI a := by rfl) (hy : y = nI b := by rfl) (ha : a < 2 ^ 31 := by omega) (hb : b < 2 ^ 31 := by omega) : (x < y → A) ∧ (¬ x < y → B) := by
  subst hx hy
  rw [nI_ltI ha hb]
  exact ⟨f, fun z => g (by omega)⟩
theorem pk_eq {x y : Int32} {A B : Prop} (a b : Nat) (f : a = b → A) (g : a ≠ b → B) (hx : x = nI a := by rfl) (hy : y = nI b := by rfl) (ha : a < 2 ^ 31 := by omega) (hb : b < 2 ^ 31 := by omega) : (x = y → A) ∧ (¬ x = y → B) := by
  subst hx hy
  rw [nI_eq ha hb]
  exact ⟨f, g⟩
theorem pk_in {x : Int32} (n N : Nat) (h : n < N) (hx : x = nI n := by rfl) (hN : N < 2 ^ 31 := by omega) : vp_in x N := by
  subst hx
  exact vp_in_nI h hN
theorem pk_cl {x : Int32} (n : Nat) (hx : x = nI n := by rfl) (h : n < 2 ^ 31 := by omega) : x.toNatClampNeg = n := by
  subst hx
  exact nI_clamp h
theorem pk_tn {n : Nat} (h : n < 2 ^ 32) : (nI n).toBitVec.toNat = n := Nat.mod_eq_of_lt h
theorem pk_and (x : Int32) {m : Int32} (k : Nat) (hm : m.toBitVec.toNat = 2 ^ k - 1) : x &&& m = nI (x.toBitVec.toNat % 2 ^ k) := by
  apply Int32.toBitVec_inj.mp
  apply BitVec.eq_of_toNat_eq
  rw [Int32.toBitVec_and, BitVec.toNat_and, hm, Nat.and_two_pow_sub_one_eq_mod]
  show _ = (BitVec.ofNat 32 _).toNat
  rw [BitVec.toNat_ofNat]
  exact (Nat.mod_eq_of_lt (Nat.lt_of_le_of_lt (Nat.mod_le _ _) x.toBitVec.isLt)).symm
theorem pk_andN {n : Nat} (h : n < 2 ^ 32) {m : Int32} (k : Nat) (hm : m.toBitVec.toNat = 2 ^ k - 1) : nI n &&& m = nI (n % 2 ^ k) := by
  rw [pk_and _ k hm, pk_tn h]
theorem pk_andE (x : Int32) {m : Int32} (k : Nat) (hm : m.toBitVec.toNat = 2 ^ k - 1) : ∃ j : Nat, j < 2 ^ k ∧ x &&& m = nI j := ⟨_, Nat.mod_lt _ (Nat.two_pow_pos k), pk_and x k hm⟩
theorem pk_andIn (x : Int32) {m : Int32} (k : Nat) (hm : m.toBitVec.toNat = 2 ^ k - 1) (hk : k ≤ 30) : vp_in (x &&& m) (2 ^ k) := by
  obtain ⟨j, hj, e⟩ := pk_andE x k hm
  rw [e]
  exact vp_in_nI hj (Nat.lt_of_le_of_lt (Nat.pow_le_pow_right (by decide) hk) (by decide))
theorem pk_least (P : Nat → Prop) (h : ∃ k, P k) : ∃ k, P k ∧ ∀ j, j < k → ¬ P j := by
  obtain ⟨k, hk⟩ := h
  induction k using Nat.strongRecOn with
  | ind k ih =>
    by_cases e : ∃ j, j < k ∧ P j
    · obtain ⟨j, hj, pj⟩ := e
      exact ih j hj pj
    · exact ⟨k, hk, fun j hj pj => e ⟨j, hj, pj⟩⟩
theorem qb_one : ∀ m, m < 32 → ∀ i, i < 32 → bt ((1 : Int32) <<< (nI m &&& 31)) i = decide (i = m) := by decide +kernel
theorem qb_1 : ∀ i, i < 32 → bt 1 i = decide (i = 0) := by decide +kernel
theorem qb_z (x y : Int32) : (x &&& y) = 0 ↔ ∀ i, i < 32 → ¬ (bt x i = true ∧ bt y i = true) := by
  constructor
  · intro h i _ hb
    have e := b_and x y i
    rw [h, b_0, hb.1, hb.2] at e
    exact absurd e (by decide)
  · intro h
    apply b_ext
    intro i hi
    rw [b_and, b_0]
    have := h i hi
    cases hx : bt x i <;> cases hy : bt y i <;> simp_all
theorem qb_con (x : Int32) {m : Nat} (hm : m < 32) : (x &&& ((1 : Int32) <<< (nI m &&& 31))) = 0 ↔ bt x m = false := by
  rw [qb_z]
  constructor
  · intro h
    have := h m hm
    rw [qb_one m hm m hm] at this
    cases hx : bt x m
    · rfl
    · exact absurd ⟨hx, by simp⟩ this
  · intro h i hi hb
    rw [qb_one m hm i hi] at hb
    have e : i = m := of_decide_eq_true hb.2
    subst e
    rw [h] at hb
    exact absurd hb.1 (by decide)
theorem qb_bit (x : Int32) {m : Nat} (hm : m < 32) : (x >>> (nI m &&& 31)) &&& 1 = if bt x m = true then 1 else 0 := by
  apply b_ext
  intro i hi
  rw [b_and, b_sshr m hm x hi, qb_1 i hi]
  by_cases h0 : i = 0
  · subst h0
    rw [Nat.add_zero, if_pos hm]
    cases hx : bt x m
    · simp [b_0]
    · simp [qb_1]
  · cases hx : bt x m
    · simp [b_0, h0]
    · simp [qb_1 i hi, h0]
theorem qb_bit1 (x : Int32) {m : Nat} (hm : m < 32) : (x >>> (nI m &&& 31)) &&& 1 = 1 ↔ bt x m = true := by
  rw [qb_bit x hm]
  cases hx : bt x m
  · exact ⟨fun z => absurd z (by decide), fun z => absurd z (by decide)⟩
  · exact ⟨fun _ => rfl, fun _ => rfl⟩
theorem qb_bit0 (x : Int32) {m : Nat} (hm : m < 32) : (x >>> (nI m &&& 31)) &&& 1 = 0 ↔ bt x m = false := by
  rw [qb_bit x hm]
  cases hx : bt x m
  · exact ⟨fun _ => rfl, fun _ => rfl⟩
  · exact ⟨fun z => absurd z (by decide), fun z => absurd z (by decide)⟩
theorem qb_not (r : Int32) {i : Nat} (hi : i < 32) : bt (255 &&& (r ^^^ (-1))) i = (decide (i < 8) && !bt r i) := by
  rw [b_and, b_255, b_xor, b_m1 i hi]
  cases bt r i <;> rfl
theorem qb_sub (p r : Int32) : (p &&& (r ^^^ (-1))) = 0 ↔ ∀ i, i < 32 → bt p i = true → bt r i = true := by
  rw [qb_z]
  constructor
  · intro h i hi hp
    have := h i hi
    rw [b_xor, b_m1 i hi] at this
    cases hr : bt r i
    · rw [hr] at this
      exact absurd ⟨hp, rfl⟩ this
    · rfl
  · intro h i hi hb
    rw [b_xor, b_m1 i hi, h i hi hb.1] at hb
    exact absurd hb.2 (by decide)
/-- the mask r holds just the positions below 8 with P -/
def qb_Is (r : Int32) (P : Nat → Prop) : Prop := ∀ i, i < 32 → (bt r i = true ↔ i < 8 ∧ P i)
theorem qb_Is_eq {r r' : Int32} {P P' : Nat → Prop} (h : qb_Is r P) (h' : qb_Is r' P') (e : ∀ i, i < 8 → (P i ↔ P' i)) : r' = r := by
  apply b_ext
  intro i hi
  have a := h i hi
  have b := h' i hi
  by_cases h8 : i < 8
  · have c := e i h8
    cases hx : bt r i <;> cases hy : bt r' i <;> simp_all
  · cases hx : bt r i <;> cases hy : bt r' i <;> simp_all
theorem qb_Is_c {r : Int32} {P P' : Nat → Prop} (h : qb_Is r P) (e : ∀ i, i < 8 → (P i ↔ P' i)) : qb_Is r P' := by
  intro i hi
  rw [h i hi]
  exact ⟨fun z => ⟨z.1, (e i z.1).mp z.2⟩, fun z => ⟨z.1, (e i z.1).mpr z.2⟩⟩
theorem qb_Is_0 {P : Nat → Prop} (e : ∀ i, i < 8 → ¬ P i) : qb_Is 0 P := by
  intro i hi
  rw [b_0]
  exact ⟨fun z => absurd z (by decide), fun z => absurd z.2 (e i z.1)⟩
theorem qb_Is_or {r s : Int32} {P Q : Nat → Prop} (h : qb_Is r P) (h' : qb_Is s Q) : qb_Is (r ||| s) (fun i => P i ∨ Q i) := by
  intro i hi
  have a := h i hi
  have b := h' i hi
  rw [b_or, Bool.or_eq_true, a, b]
  constructor
  · rintro (z | z)
    · exact ⟨z.1, Or.inl z.2⟩
    · exact ⟨z.1, Or.inr z.2⟩
  · rintro ⟨z, w | w⟩
    · exact Or.inl ⟨z, w⟩
    · exact Or.inr ⟨z, w⟩
theorem qb_Is_1 {m : Nat} (hm : m < 8) : qb_Is ((1 : Int32) <<< (nI m &&& 31)) (fun i => i = m) := by
  intro i hi
  rw [qb_one m (by omega) i hi, decide_eq_true_iff]
  exact ⟨fun z => ⟨by omega, z⟩, fun z => z.2⟩
theorem qb_Is_not {r : Int32} {P : Nat → Prop} (h : qb_Is r P) : qb_Is (255 &&& (r ^^^ (-1))) (fun i => ¬ P i) := by
  intro i hi
  rw [qb_not r hi, Bool.and_eq_true, decide_eq_true_iff]
  have a := h i hi
  constructor
  · rintro ⟨h8, hb⟩
    refine ⟨h8, fun hp => ?_⟩
    rw [a.mpr ⟨h8, hp⟩] at hb
    exact absurd hb (by decide)
  · rintro ⟨h8, hp⟩
    refine ⟨h8, ?_⟩
    cases hx : bt r i
    · rfl
    · exact absurd (a.mp hx).2 hp
theorem qb_Is_and0 {r s : Int32} {P Q : Nat → Prop} (h : qb_Is r P) (h' : qb_Is s Q) : (r &&& s) = 0 ↔ ¬ ∃ i, i < 8 ∧ P i ∧ Q i := by
  rw [qb_z]
  constructor
  · rintro z ⟨i, h8, p, q⟩
    exact z i (by omega) ⟨(h i (by omega)).mpr ⟨h8, p⟩, (h' i (by omega)).mpr ⟨h8, q⟩⟩
  · intro z i hi hb
    have a := (h i hi).mp hb.1
    have b := (h' i hi).mp hb.2
    exact z ⟨i, a.1, a.2, b.2⟩
theorem qb_Is_sub {r s : Int32} {P Q : Nat → Prop} (h : qb_Is r P) (h' : qb_Is s Q) : (r &&& (s ^^^ (-1))) = 0 ↔ ∀ i, i < 8 → P i → Q i := by
  rw [qb_sub]
  constructor
  · intro z i h8 p
    exact ((h' i (by omega)).mp (z i (by omega) ((h i (by omega)).mpr ⟨h8, p⟩))).2
  · intro z i hi hb
    have a := (h i hi).mp hb
    exact (h' i hi).mpr ⟨a.1, z i a.1 a.2⟩
theorem qb_small (x : Int32) (h : ∀ i, i < 32 → bt x i = true → i < 8) : ∃ c, c < 256 ∧ x = nI c := by
  obtain ⟨j, hj, e⟩ := pk_andE x (m := 255) 8 (by decide)
  refine ⟨j, hj, ?_⟩
  rw [← e]
  apply b_ext
  intro i hi
  rw [b_and, b_255]
  cases hx : bt x i
  · rfl
  · simp [h i hi hx]
def qb_val (s : Nat → Bool) : Nat := (s 0).toNat + 2 * (s 1).toNat + 4 * (s 2).toNat + 8 * (s 3).toNat + 16 * (s 4).toNat + 32 * (s 5).toNat + 64 * (s 6).toNat + 128 * (s 7).toNat
theorem qb_tab : ∀ b0 b1 b2 b3 b4 b5 b6 b7 : Bool, (fun c : Nat => c < 256 ∧ bt (nI c) 0 = b0 ∧ bt (nI c) 1 = b1 ∧ bt (nI c) 2 = b2 ∧ bt (nI c) 3 = b3 ∧ bt (nI c) 4 = b4 ∧ bt (nI c) 5 = b5 ∧ bt (nI c) 6 = b6 ∧ bt (nI c) 7 = b7) (b0.toNat + 2 * b1.toNat + 4 * b2.toNat + 8 * b3.toNat + 16 * b4.toNat + 32 * b5.toNat + 64 * b6.toNat + 128 * b7.toNat) := by
  dsimp only
  decide +kernel
theorem qb_ch (s : Nat → Bool) : ∃ c, c < 256 ∧ ∀ p, p < 8 → bt (nI c) p = s p := by
  have h := qb_tab (s 0) (s 1) (s 2) (s 3) (s 4) (s 5) (s 6) (s 7)
  dsimp only at h
  refine ⟨_, h.1, ?_⟩
  obtain ⟨_, h0, h1, h2, h3, h4, h5, h6, h7⟩ := h
  intro p hp
  match p, hp with
  | 0, _ => exact h0
  | 1, _ => exact h1
  | 2, _ => exact h2
  | 3, _ => exact h3
  | 4, _ => exact h4
  | 5, _ => exact h5
  | 6, _ => exact h6
  | 7, _ => exact h7
end
section
/-- the least relation that holds E and is closed under going on through a middle of M -/
def qr_R (E : Nat → Nat → Prop) (M : Nat → Prop) (p q : Nat) : Prop :=
  ∀ T : Nat → Nat → Prop, (∀ a b, E a b → T a b) → (∀ a b c, T a b → M b → T b c → T a c) → T p q
theorem qr_e {E : Nat → Nat → Prop} {M : Nat → Prop} {p q : Nat} (h : E p q) : qr_R E M p q := fun _ hE _ => hE _ _ h
theorem qr_c {E : Nat → Nat → Prop} {M : Nat → Prop} {a b c : Nat} (h1 : qr_R E M a b) (hb : M b) (h2 : qr_R E M b c) : qr_R E M a c :=
  fun T hE hT => hT _ _ _ (h1 T hE hT) hb (h2 T hE hT)
theorem qr_mono {E E' : Nat → Nat → Prop} {M M' : Nat → Prop} {p q : Nat} (hE : ∀ a b, E a b → E' a b) (hM : ∀ b, M b → M' b) (h : qr_R E M p q) : qr_R E' M' p q :=
  h _ (fun a b e => qr_e (hE a b e)) (fun _ b _ h1 hb h2 => qr_c h1 (hM b hb) h2)
theorem qr_congr {E E' : Nat → Nat → Prop} {M M' : Nat → Prop} (hE : ∀ a b, E a b ↔ E' a b) (hM : ∀ b, M b ↔ M' b) (p q : Nat) : qr_R E M p q ↔ qr_R E' M' p q :=
  ⟨qr_mono (fun a b => (hE a b).mp) (fun b => (hM b).mp), qr_mono (fun a b => (hE a b).mpr) (fun b => (hM b).mpr)⟩
theorem qr_none {E : Nat → Nat → Prop} {M : Nat → Prop} (hM : ∀ b, ¬ M b) (p q : Nat) : qr_R E M p q ↔ E p q :=
  ⟨fun h => h E (fun _ _ e => e) (fun _ b _ _ hb _ => absurd hb (hM b)), qr_e⟩
/-- one middle more -/
theorem qr_w {E : Nat → Nat → Prop} {M M' : Nat → Prop} {m : Nat} (hM : ∀ b, M' b ↔ M b ∨ b = m) (p q : Nat) :
    qr_R E M' p q ↔ qr_R E M p q ∨ (qr_R E M p m ∧ qr_R E M m q) := by
  constructor
  · intro h
    refine h (fun p q => qr_R E M p q ∨ (qr_R E M p m ∧ qr_R E M m q)) (fun a b e => Or.inl (qr_e e)) ?_
    intro a b c h1 hb h2
    rcases (hM b).mp hb with hb | hb
    · rcases h1 with h1 | h1 <;> rcases h2 with h2 | h2
      · exact Or.inl (qr_c h1 hb h2)
      · exact Or.inr ⟨qr_c h1 hb h2.1, h2.2⟩
      · exact Or.inr ⟨h1.1, qr_c h1.2 hb h2⟩
      · exact Or.inr ⟨h1.1, h2.2⟩
    · subst hb
      rcases h1 with h1 | h1 <;> rcases h2 with h2 | h2
      · exact Or.inr ⟨h1, h2⟩
      · exact Or.inr ⟨h1, h2.2⟩
      · exact Or.inr ⟨h1.1, h2⟩
      · exact Or.inr ⟨h1.1, h2.2⟩
  · have hm : ∀ b, M b → M' b := fun b hb => (hM b).mpr (Or.inl hb)
    rintro (h | h)
    · exact qr_mono (fun _ _ e => e) hm h
    · exact qr_c (qr_mono (fun _ _ e => e) hm h.1) ((hM m).mpr (Or.inr rfl)) (qr_mono (fun _ _ e => e) hm h.2)
/-- edges outside K may be left out if ends and middles are in K -/
theorem qr_res {E : Nat → Nat → Prop} {M K : Nat → Prop} (hK : ∀ b, M b → K b) {p q : Nat} (hp : K p) (hq : K q) (h : qr_R E M p q) :
    qr_R (fun a b => E a b ∧ K a ∧ K b) M p q := by
  refine h (fun a b => K a → K b → qr_R (fun a b => E a b ∧ K a ∧ K b) M a b) (fun a b e ha hb => qr_e ⟨e, ha, hb⟩) ?_ hp hq
  intro a b c h1 hb h2 ha hc
  exact qr_c (h1 ha (hK b hb)) hb (h2 (hK b hb) hc)
theorem qr_ends {E : Nat → Nat → Prop} {M K : Nat → Prop} (hE : ∀ a b, E a b → K a ∧ K b) {p q : Nat} (h : qr_R E M p q) : K p ∧ K q :=
  h (fun a b => K a ∧ K b) hE (fun _ _ _ h1 _ h2 => ⟨h1.1, h2.2⟩)
theorem qr_sep {G : Nat → Nat → Prop} {M A : Nat → Prop} (hA : ∀ a b, G a b → A a → A b) {q : Nat} (h : qr_R G M q q) :
    (A q ∧ qr_R (fun a b => G a b ∧ A a ∧ A b) M q q) ∨ (¬ A q ∧ qr_R (fun a b => G a b ∧ ¬ A a ∧ ¬ A b) M q q) := by
  have t := h (fun a b => (A a → A b ∧ qr_R (fun a b => G a b ∧ A a ∧ A b) M a b) ∧ (¬ A b → ¬ A a ∧ qr_R (fun a b => G a b ∧ ¬ A a ∧ ¬ A b) M a b))
    (fun a b e => ⟨fun ha => ⟨hA a b e ha, qr_e ⟨e, ha, hA a b e ha⟩⟩, fun hb => ⟨fun ha => hb (hA a b e ha), qr_e ⟨e, fun ha => hb (hA a b e ha), hb⟩⟩⟩)
    (fun a b c h1 hb h2 => ⟨fun ha => ⟨(h2.1 (h1.1 ha).1).1, qr_c (h1.1 ha).2 hb (h2.1 (h1.1 ha).1).2⟩, fun hc => ⟨(h1.2 (h2.2 hc).1).1, qr_c (h1.2 (h2.2 hc).1).2 hb (h2.2 hc).2⟩⟩)
  by_cases hq : A q
  · exact Or.inl ⟨hq, (t.1 hq).2⟩
  · exact Or.inr ⟨hq, (t.2 hq).2⟩
theorem qr_dec {G : Nat → Nat → Prop} {M : Nat → Prop} {rk : Nat → Nat} (hG : ∀ a b, G a b → rk b < rk a) {p q : Nat} (h : qr_R G M p q) : rk q < rk p :=
  h (fun a b => rk b < rk a) hG (fun _ _ _ h1 _ h2 => Nat.lt_trans h2 h1)
end
section
def qg_par (c : Nat) : Bool := decide (c % 2 = 1)
def qg_mv (fi se : Nat → Nat) (p : Nat) (b : Bool) : Nat := if b = true then se p else fi p
/-- the moves of plays in which the player pl keeps to the plan ch -/
def qg_E (own : Nat → Bool) (fi se : Nat → Nat) (pl : Bool) (ch : Nat → Bool) (p q : Nat) : Prop :=
  p < 8 ∧ ((own p = pl ∧ q = qg_mv fi se p (ch p)) ∨ (own p ≠ pl ∧ (q = fi p ∨ q = se p)))
/-- on a round trip whose greatest colour is its own, and is the other one's -/
def qg_L (own : Nat → Bool) (fi se col : Nat → Nat) (pl : Bool) (ch : Nat → Bool) (q : Nat) : Prop :=
  qg_par (col q) ≠ pl ∧ qr_R (qg_E own fi se pl ch) (fun b => b < 8 ∧ col b ≤ col q) q q
def qg_Won (own : Nat → Bool) (fi se col : Nat → Nat) (pl : Bool) (ch : Nat → Bool) (p : Nat) : Prop :=
  ¬ ∃ q, q < 8 ∧ qg_L own fi se col pl ch q ∧ qr_R (qg_E own fi se pl ch) (fun b => b < 8) p q
theorem qg_E_c {own own' : Nat → Bool} {fi se : Nat → Nat} {pl : Bool} {ch ch' : Nat → Bool} (ho : ∀ p, p < 8 → own p = own' p)
    (hc : ∀ p, p < 8 → own p = pl → ch p = ch' p) (p q : Nat) : qg_E own fi se pl ch p q ↔ qg_E own' fi se pl ch' p q := by
  unfold qg_E
  constructor
  · rintro ⟨hp, h⟩
    refine ⟨hp, ?_⟩
    rw [← ho p hp]
    rcases h with h | h
    · rw [← hc p hp h.1]; exact Or.inl h
    · exact Or.inr h
  · rintro ⟨hp, h⟩
    refine ⟨hp, ?_⟩
    rw [← ho p hp] at h
    rcases h with h | h
    · rw [hc p hp h.1]; exact Or.inl h
    · exact Or.inr h
theorem qg_Won_c {own own' : Nat → Bool} {fi se col : Nat → Nat} {pl : Bool} {ch ch' : Nat → Bool} (ho : ∀ p, p < 8 → own p = own' p)
    (hc : ∀ p, p < 8 → own p = pl → ch p = ch' p) (p : Nat) : qg_Won own fi se col pl ch p ↔ qg_Won own' fi se col pl ch' p := by
  unfold qg_Won qg_L
  have e := qg_E_c (fi := fi) (se := se) ho hc
  constructor
  · rintro h ⟨q, hq, ⟨h1, h2⟩, h3⟩
    exact h ⟨q, hq, ⟨h1, (qr_congr e (fun _ => Iff.rfl) _ _).mpr h2⟩, (qr_congr e (fun _ => Iff.rfl) _ _).mpr h3⟩
  · rintro h ⟨q, hq, ⟨h1, h2⟩, h3⟩
    exact h ⟨q, hq, ⟨h1, (qr_congr e (fun _ => Iff.rfl) _ _).mp h2⟩, (qr_congr e (fun _ => Iff.rfl) _ _).mp h3⟩
noncomputable def qd_cnt (S : Nat → Prop) : Nat → Nat
  | 0 => 0
  | k + 1 => qd_cnt S k + @ite Nat (S k) (Classical.propDecidable _) 1 0
theorem qd_cnt_le {S S' : Nat → Prop} (h : ∀ p, S' p → S p) : ∀ k, qd_cnt S' k ≤ qd_cnt S k
  | 0 => Nat.le_refl _
  | k + 1 => by
    have ih := qd_cnt_le h k
    unfold qd_cnt
    by_cases a : S' k
    · rw [if_pos a, if_pos (h k a)]; omega
    · rw [if_neg a]; omega
theorem qd_cnt_lt {S S' : Nat → Prop} (h : ∀ p, S' p → S p) {p : Nat} (hp : S p) (hp' : ¬ S' p) : ∀ k, p < k → qd_cnt S' k < qd_cnt S k
  | 0, hk => absurd hk (Nat.not_lt_zero _)
  | k + 1, hk => by
    have le := qd_cnt_le h k
    unfold qd_cnt
    by_cases e : p = k
    · subst e
      rw [if_pos hp, if_neg hp']; omega
    · have ih := qd_cnt_lt h hp hp' k (by omega)
      by_cases a : S' k
      · rw [if_pos a, if_pos (h k a)]; omega
      · rw [if_neg a]; omega
theorem qd_max (S : Nat → Prop) (col : Nat → Nat) : ∀ k, (∃ p, p < k ∧ S p) → ∃ p, p < k ∧ S p ∧ ∀ q, q < k → S q → col q ≤ col p
  | 0, h => by obtain ⟨p, hp, _⟩ := h; omega
  | k + 1, h => by
    by_cases e : ∃ p, p < k ∧ S p
    · obtain ⟨p, hp, sp, hm⟩ := qd_max S col k e
      by_cases c : S k ∧ col p ≤ col k
      · refine ⟨k, by omega, c.1, fun q hq sq => ?_⟩
        by_cases hk : q = k
        · rw [hk]; exact Nat.le_refl _
        · exact Nat.le_trans (hm q (by omega) sq) c.2
      · refine ⟨p, by omega, sp, fun q hq sq => ?_⟩
        by_cases hk : q = k
        · subst hk
          by_cases d : col p ≤ col q
          · exact absurd ⟨sq, d⟩ c
          · omega
        · exact hm q (by omega) sq
    · obtain ⟨p, hp, sp⟩ := h
      have hk : p = k := by
        by_cases hk : p = k
        · exact hk
        · exact absurd ⟨p, by omega, sp⟩ e
      subst hk
      refine ⟨p, hp, sp, fun q hq sq => ?_⟩
      by_cases hk : q = p
      · rw [hk]; exact Nat.le_refl _
      · exact absurd ⟨q, by omega, sq⟩ e
section
variable (own : Nat → Bool) (fi se col : Nat → Nat)
def qd_at (S T : Nat → Prop) (j : Bool) : Nat → Nat → Prop
  | 0 => fun p => S p ∧ T p
  | n + 1 => fun p => qd_at S T j n p ∨ (S p ∧ ((own p = j ∧ (qd_at S T j n (fi p) ∨ qd_at S T j n (se p))) ∨ (own p ≠ j ∧ (S (fi p) → qd_at S T j n (fi p)) ∧ (S (se p) → qd_at S T j n (se p)))))
theorem qd_at_S (S T : Nat → Prop) (j : Bool) : ∀ n p, qd_at own fi se S T j n p → S p
  | 0, _, h => h.1
  | n + 1, p, h => by
    rcases h with h | h
    · exact qd_at_S S T j n p h
    · exact h.1
theorem qd_at_m (S T : Nat → Prop) (j : Bool) {n m : Nat} (h : n ≤ m) {p : Nat} (hp : qd_at own fi se S T j n p) : qd_at own fi se S T j m p := by
  induction m with
  | zero =>
    have e : n = 0 := by omega
    subst e
    exact hp
  | succ m ih =>
    by_cases e : n = m + 1
    · subst e; exact hp
    · exact Or.inl (ih (by omega))
/-- the attractor of T in S for j: its set, its ranks, its moves -/
theorem qd_attr (S T : Nat → Prop) (j : Bool) (hS : ∀ p, S p → S (fi p) ∨ S (se p)) :
    ∃ (A : Nat → Prop) (rk : Nat → Nat) (al : Nat → Bool), (∀ p, A p → S p) ∧ (∀ p, S p → T p → A p)
      ∧ (∀ p, A p → ¬ T p → own p = j → A (qg_mv fi se p (al p)) ∧ rk (qg_mv fi se p (al p)) < rk p)
      ∧ (∀ p, A p → ¬ T p → own p ≠ j → ∀ q, (q = fi p ∨ q = se p) → S q → A q ∧ rk q < rk p)
      ∧ (∀ p, S p → ¬ A p → own p = j → ¬ A (fi p) ∧ ¬ A (se p))
      ∧ (∀ p, S p → ¬ A p → (S (fi p) ∧ ¬ A (fi p)) ∨ (S (se p) ∧ ¬ A (se p))) := by
  have h1 : ∀ p, ∃ n, (∃ k, qd_at own fi se S T j k p) → qd_at own fi se S T j n p ∧ ∀ m, m < n → ¬ qd_at own fi se S T j m p := by
    intro p
    by_cases h : ∃ k, qd_at own fi se S T j k p
    · obtain ⟨n, hn⟩ := pk_least _ h
      exact ⟨n, fun _ => hn⟩
    · exact ⟨0, fun z => absurd z h⟩
  obtain ⟨rk, hrk⟩ := Classical.skolem.mp h1
  have hle : ∀ p n, qd_at own fi se S T j n p → rk p ≤ n := by
    intro p n h
    by_cases c : rk p ≤ n
    · exact c
    · exact absurd h ((hrk p ⟨n, h⟩).2 n (by omega))
  have hst : ∀ p, (∃ k, qd_at own fi se S T j k p) → ¬ T p → ∃ n, rk p = n + 1 ∧ ((own p = j ∧ (qd_at own fi se S T j n (fi p) ∨ qd_at own fi se S T j n (se p))) ∨ (own p ≠ j ∧ (S (fi p) → qd_at own fi se S T j n (fi p)) ∧ (S (se p) → qd_at own fi se S T j n (se p)))) := by
    intro p hp ht
    have h := hrk p hp
    cases hn : rk p with
    | zero => rw [hn] at h; exact absurd h.1.2 ht
    | succ n =>
      rw [hn] at h
      refine ⟨n, rfl, ?_⟩
      rcases h.1 with z | z
      · exact absurd z (h.2 n (by omega))
      · exact z.2
  have h2 : ∀ p, ∃ b : Bool, (∃ k, qd_at own fi se S T j k p) → ¬ T p → own p = j → (∃ k, qd_at own fi se S T j k (qg_mv fi se p b)) ∧ rk (qg_mv fi se p b) < rk p := by
    intro p
    by_cases c : (∃ k, qd_at own fi se S T j k p) ∧ ¬ T p ∧ own p = j
    · obtain ⟨n, hn, z⟩ := hst p c.1 c.2.1
      rcases z with z | z
      · rcases z.2 with z | z
        · exact ⟨false, fun _ _ _ => ⟨⟨n, z⟩, by have := hle _ _ z; show rk (fi p) < rk p; omega⟩⟩
        · exact ⟨true, fun _ _ _ => ⟨⟨n, z⟩, by have := hle _ _ z; show rk (se p) < rk p; omega⟩⟩
      · exact absurd c.2.2 z.1
    · exact ⟨false, fun a b d => absurd ⟨a, b, d⟩ c⟩
  obtain ⟨al, hal⟩ := Classical.skolem.mp h2
  refine ⟨fun p => ∃ k, qd_at own fi se S T j k p, rk, al, ?_, ?_, hal, ?_, ?_, ?_⟩
  · rintro p ⟨k, h⟩
    exact qd_at_S own fi se S T j k p h
  · exact fun p sp tp => ⟨0, sp, tp⟩
  · intro p hp ht ho q hq sq
    obtain ⟨n, hn, z⟩ := hst p hp ht
    rcases z with z | z
    · exact absurd z.1 ho
    · rcases hq with hq | hq
      · subst hq
        have := z.2.1 sq
        exact ⟨⟨n, this⟩, by have := hle _ _ this; omega⟩
      · subst hq
        have := z.2.2 sq
        exact ⟨⟨n, this⟩, by have := hle _ _ this; omega⟩
  · intro p sp hp ho
    refine ⟨?_, ?_⟩
    · rintro ⟨k, h⟩
      exact hp ⟨k + 1, Or.inr ⟨sp, Or.inl ⟨ho, Or.inl h⟩⟩⟩
    · rintro ⟨k, h⟩
      exact hp ⟨k + 1, Or.inr ⟨sp, Or.inl ⟨ho, Or.inr h⟩⟩⟩
  · intro p sp hp
    by_cases ho : own p = j
    · rcases hS p sp with h | h
      · refine Or.inl ⟨h, ?_⟩
        rintro ⟨k, z⟩
        exact hp ⟨k + 1, Or.inr ⟨sp, Or.inl ⟨ho, Or.inl z⟩⟩⟩
      · refine Or.inr ⟨h, ?_⟩
        rintro ⟨k, z⟩
        exact hp ⟨k + 1, Or.inr ⟨sp, Or.inl ⟨ho, Or.inr z⟩⟩⟩
    · by_cases c1 : S (fi p) ∧ ¬ ∃ k, qd_at own fi se S T j k (fi p)
      · exact Or.inl c1
      · by_cases c2 : S (se p) ∧ ¬ ∃ k, qd_at own fi se S T j k (se p)
        · exact Or.inr c2
        · exfalso
          have e1 : ∃ k, S (fi p) → qd_at own fi se S T j k (fi p) := by
            by_cases s : S (fi p)
            · by_cases a : ∃ k, qd_at own fi se S T j k (fi p)
              · obtain ⟨k, a⟩ := a; exact ⟨k, fun _ => a⟩
              · exact absurd ⟨s, a⟩ c1
            · exact ⟨0, fun z => absurd z s⟩
          have e2 : ∃ k, S (se p) → qd_at own fi se S T j k (se p) := by
            by_cases s : S (se p)
            · by_cases a : ∃ k, qd_at own fi se S T j k (se p)
              · obtain ⟨k, a⟩ := a; exact ⟨k, fun _ => a⟩
              · exact absurd ⟨s, a⟩ c2
            · exact ⟨0, fun z => absurd z s⟩
          obtain ⟨k1, e1⟩ := e1
          obtain ⟨k2, e2⟩ := e2
          exact hp ⟨k1 + k2 + 1, Or.inr ⟨sp, Or.inr ⟨ho, fun s => qd_at_m own fi se S T j (by omega) (e1 s), fun s => qd_at_m own fi se S T j (by omega) (e2 s)⟩⟩⟩
def qd_Ed (W : Nat → Prop) (j : Bool) (sg : Nat → Bool) (p q : Nat) : Prop :=
  W p ∧ W q ∧ ((own p = j ∧ q = qg_mv fi se p (sg p)) ∨ (own p ≠ j ∧ (q = fi p ∨ q = se p)))
def qd_Win (S W : Nat → Prop) (j : Bool) (sg : Nat → Bool) : Prop :=
  (∀ p, W p → S p) ∧ (∀ p, W p → own p = j → W (qg_mv fi se p (sg p))) ∧ (∀ p, W p → own p ≠ j → ∀ q, (q = fi p ∨ q = se p) → S q → W q)
    ∧ (∀ q, W q → qg_par (col q) ≠ j → ¬ qr_R (qd_Ed own fi se W j sg) (fun b => col b ≤ col q) q q)
def qd_Det (S : Nat → Prop) (i : Bool) : Prop :=
  ∃ (Wi : Nat → Prop) (si : Nat → Bool) (Wo : Nat → Prop) (so : Nat → Bool), qd_Win own fi se col S Wi i si ∧ qd_Win own fi se col S Wo (!i) so ∧ ∀ p, S p → Wi p ∨ Wo p
theorem qd_flip (S : Nat → Prop) {i : Bool} (h : qd_Det own fi se col S i) (i' : Bool) : qd_Det own fi se col S i' := by
  by_cases e : i' = i
  · rw [e]; exact h
  · have e' : i' = !i := by cases i <;> cases i' <;> simp_all
    obtain ⟨Wi, si, Wo, so, h1, h2, h3⟩ := h
    refine ⟨Wo, so, Wi, si, by rw [e']; exact h2, ?_, fun p sp => (h3 p sp).symm⟩
    have e2 : (!i') = i := by rw [e']; cases i <;> rfl
    rw [e2]; exact h1
theorem qd_ne {i j : Bool} (h : j ≠ i) : j = !i := by cases i <;> cases j <;> simp_all
theorem qd_case1 (S : Nat → Prop) (hS : ∀ p, S p → S (fi p) ∨ S (se p)) (d : Nat) (hd : ∀ p, S p → col p ≤ d) (i : Bool) (hi : qg_par d = i)
    (A : Nat → Prop) (rk : Nat → Nat) (al : Nat → Bool) (a1 : ∀ p, A p → S p)
    (a3 : ∀ p, A p → ¬ col p = d → own p = i → A (qg_mv fi se p (al p)) ∧ rk (qg_mv fi se p (al p)) < rk p)
    (a4 : ∀ p, A p → ¬ col p = d → own p ≠ i → ∀ q, (q = fi p ∨ q = se p) → S q → A q ∧ rk q < rk p)
    (W : Nat → Prop) (sg : Nat → Bool) (hW : qd_Win own fi se col (fun p => S p ∧ ¬ A p) W i sg) (hall : ∀ p, S p → ¬ A p → W p) : ∃ tu, qd_Win own fi se col S S i tu := by
  have h0 : ∀ p, ∃ b : Bool, (S p → A p → col p = d → S (qg_mv fi se p b)) ∧ (A p → ¬ col p = d → b = al p) ∧ (¬ A p → b = sg p) := by
    intro p
    by_cases a : A p
    · by_cases c : col p = d
      · by_cases s : S (fi p)
        · exact ⟨false, fun _ _ _ => s, fun _ z => absurd c z, fun z => absurd a z⟩
        · refine ⟨true, fun sp _ _ => ?_, fun _ z => absurd c z, fun z => absurd a z⟩
          rcases hS p sp with z | z
          · exact absurd z s
          · exact z
      · exact ⟨al p, fun _ _ z => absurd z c, fun _ _ => rfl, fun z => absurd a z⟩
    · exact ⟨sg p, fun _ z => absurd z a, fun z => absurd z a, fun _ => rfl⟩
  obtain ⟨tu, ht⟩ := Classical.skolem.mp h0
  refine ⟨tu, fun _ h => h, ?_, fun _ _ _ q _ sq => sq, ?_⟩
  · intro p sp ho
    by_cases a : A p
    · by_cases c : col p = d
      · exact (ht p).1 sp a c
      · rw [(ht p).2.1 a c]
        exact a1 _ (a3 p a c ho).1
    · rw [(ht p).2.2 a]
      exact (hW.1 _ (hW.2.1 p (hall p sp a) ho)).1
  · intro q sq hq hR
    have hlt : col q < d := by
      have := hd q sq
      by_cases e : col q = d
      · rw [e] at hq; exact absurd hi hq
      · omega
    have hR2 := qr_res (K := fun b => col b < d) (fun b hb => by have : col b ≤ col q := hb; show col b < d; omega) hlt hlt hR
    have hA : ∀ a b, (qd_Ed own fi se S i tu a b ∧ col a < d ∧ col b < d) → A a → A b ∧ rk b < rk a := by
      rintro a b ⟨⟨_, sb, e⟩, ca, _⟩ aa
      have ca' : ¬ col a = d := by have : col a < d := ca; omega
      rcases e with e | e
      · rw [e.2, (ht a).2.1 aa ca']
        exact a3 a aa ca' e.1
      · exact a4 a aa ca' e.1 b e.2 sb
    rcases qr_sep (fun a b e ha => (hA a b e ha).1) hR2 with ⟨_, h⟩ | ⟨nq, h⟩
    · exact absurd (qr_dec (rk := rk) (fun a b e => (hA a b e.1 e.2.1).2) h) (Nat.lt_irrefl _)
    · refine hW.2.2.2 q (hall q sq nq) hq (qr_mono ?_ (fun _ z => z) h)
      rintro a b ⟨⟨⟨sa, sb, e⟩, _, _⟩, na, nb⟩
      refine ⟨hall a sa na, hall b sb nb, ?_⟩
      rw [← (ht a).2.2 na]
      exact e
theorem qd_case2 (S : Nat → Prop) (i : Bool) (A : Nat → Prop)
    (a5 : ∀ p, S p → ¬ A p → own p = i → ¬ A (fi p) ∧ ¬ A (se p))
    (W : Nat → Prop) (sg : Nat → Bool) (hW : qd_Win own fi se col (fun p => S p ∧ ¬ A p) W (!i) sg)
    (B : Nat → Prop) (rk : Nat → Nat) (be : Nat → Bool) (b1 : ∀ p, B p → S p) (b2 : ∀ p, S p → W p → B p)
    (b3 : ∀ p, B p → ¬ W p → own p = (!i) → B (qg_mv fi se p (be p)) ∧ rk (qg_mv fi se p (be p)) < rk p)
    (b4 : ∀ p, B p → ¬ W p → own p ≠ (!i) → ∀ q, (q = fi p ∨ q = se p) → S q → B q ∧ rk q < rk p)
    (V : Nat → Prop) (ta : Nat → Bool) (hV : qd_Win own fi se col (fun p => S p ∧ ¬ B p) V (!i) ta) : ∃ tu, qd_Win own fi se col S (fun p => B p ∨ V p) (!i) tu := by
  have h0 : ∀ p, ∃ b : Bool, (W p → b = sg p) ∧ (B p → ¬ W p → b = be p) ∧ (¬ B p → ¬ W p → b = ta p) := by
    intro p
    by_cases w : W p
    · exact ⟨sg p, fun _ => rfl, fun _ z => absurd w z, fun _ z => absurd w z⟩
    · by_cases b : B p
      · exact ⟨be p, fun z => absurd z w, fun _ _ => rfl, fun z => absurd b z⟩
      · exact ⟨ta p, fun z => absurd z w, fun z => absurd z b, fun _ _ => rfl⟩
  obtain ⟨tu, ht⟩ := Classical.skolem.mp h0
  have hWB : ∀ p, W p → B p := fun p w => b2 p (hW.1 p w).1 w
  have hcl : ∀ p, W p → own p ≠ (!i) → ∀ q, (q = fi p ∨ q = se p) → S q → W q := by
    intro p w ho q hq sq
    have ho' : own p = i := by have := qd_ne ho; rw [this]; cases i <;> rfl
    have nA := a5 p (hW.1 p w).1 (hW.1 p w).2 ho'
    refine hW.2.2.1 p w ho q hq ⟨sq, ?_⟩
    rcases hq with hq | hq
    · rw [hq]; exact nA.1
    · rw [hq]; exact nA.2
  have hWW : ∀ a b, W a → S b → ((own a = (!i) ∧ b = qg_mv fi se a (tu a)) ∨ (own a ≠ (!i) ∧ (b = fi a ∨ b = se a))) → W b := by
    intro a b wa sb e
    rcases e with e | e
    · rw [e.2, (ht a).1 wa]; exact hW.2.1 a wa e.1
    · exact hcl a wa e.1 b e.2 sb
  have hBB : ∀ a b, B a → ¬ W a → S b → ((own a = (!i) ∧ b = qg_mv fi se a (tu a)) ∨ (own a ≠ (!i) ∧ (b = fi a ∨ b = se a))) → B b ∧ rk b < rk a := by
    intro a b ba wa sb e
    rcases e with e | e
    · rw [e.2, (ht a).2.1 ba wa]; exact b3 a ba wa e.1
    · exact b4 a ba wa e.1 b e.2 sb
  refine ⟨tu, ?_, ?_, ?_, ?_⟩
  · rintro p (h | h)
    · exact b1 p h
    · exact (hV.1 p h).1
  · intro p hp ho
    by_cases w : W p
    · rw [(ht p).1 w]
      exact Or.inl (hWB _ (hW.2.1 p w ho))
    · by_cases b : B p
      · rw [(ht p).2.1 b w]
        exact Or.inl (b3 p b w ho).1
      · rw [(ht p).2.2 b w]
        rcases hp with hp | hp
        · exact absurd hp b
        · exact Or.inr (hV.2.1 p hp ho)
  · intro p hp ho q hq sq
    by_cases w : W p
    · exact Or.inl (hWB q (hcl p w ho q hq sq))
    · by_cases b : B p
      · exact Or.inl (b4 p b w ho q hq sq).1
      · rcases hp with hp | hp
        · exact absurd hp b
        · by_cases bq : B q
          · exact Or.inl bq
          · exact Or.inr (hV.2.2.1 p hp ho q hq ⟨sq, bq⟩)
  · intro q wq hq hR
    have hS : ∀ p, (B p ∨ V p) → S p := by
      rintro p (h | h)
      · exact b1 p h
      · exact (hV.1 p h).1
    rcases qr_sep (A := B) (fun a b e ha => by
      by_cases w : W a
      · exact hWB b (hWW a b w (hS b e.2.1) e.2.2)
      · exact (hBB a b ha w (hS b e.2.1) e.2.2).1) hR with ⟨bq, h⟩ | ⟨nq, h⟩
    · rcases qr_sep (A := W) (fun a b e ha => hWW a b ha (hS b e.1.2.1) e.1.2.2) h with ⟨w, h⟩ | ⟨w, h⟩
      · refine hW.2.2.2 q w hq (qr_mono ?_ (fun _ z => z) h)
        rintro a b ⟨⟨⟨_, _, e⟩, _, _⟩, wa, wb⟩
        refine ⟨wa, wb, ?_⟩
        rw [← (ht a).1 wa]
        exact e
      · exact absurd (qr_dec (rk := rk) (fun a b e => (hBB a b e.1.2.1 e.2.1 (hS b e.1.1.2.1) e.1.1.2.2).2) h) (Nat.lt_irrefl _)
    · have vq : V q := by
        rcases wq with z | z
        · exact absurd z nq
        · exact z
      refine hV.2.2.2 q vq hq (qr_mono ?_ (fun _ z => z) h)
      rintro a b ⟨⟨va, vb, e⟩, na, nb⟩
      refine ⟨va.resolve_left na, vb.resolve_left nb, ?_⟩
      rw [← (ht a).2.2 na (fun w => na (hWB a w))]
      exact e
theorem qd_main : ∀ n (S : Nat → Prop), qd_cnt S 8 ≤ n → (∀ p, S p → p < 8) → (∀ p, S p → S (fi p) ∨ S (se p)) → ∀ i, qd_Det own fi se col S i := by
  intro n
  induction n using Nat.strongRecOn with
  | ind n ih =>
    intro S hn h8 hS i0
    by_cases hE : ∃ p, p < 8 ∧ S p
    · obtain ⟨m, hm, sm, hmax⟩ := qd_max S col 8 hE
      have hd : ∀ p, S p → col p ≤ col m := fun p sp => hmax p (h8 p sp) sp
      apply qd_flip own fi se col S (i := qg_par (col m))
      obtain ⟨A, rk, al, a1, a2, a3, a4, a5, a6⟩ := qd_attr own fi se S (fun p => col p = col m) (qg_par (col m)) hS
      have hlt : qd_cnt (fun p => S p ∧ ¬ A p) 8 < qd_cnt S 8 := qd_cnt_lt (fun p h => h.1) sm (fun h => h.2 (a2 m sm rfl)) 8 hm
      obtain ⟨Wi, si, Wo, so, hWi, hWo, hall⟩ := ih (qd_cnt (fun p => S p ∧ ¬ A p) 8) (by omega) (fun p => S p ∧ ¬ A p) (Nat.le_refl _) (fun p h => h8 p h.1) (fun p h => a6 p h.1 h.2) (qg_par (col m))
      by_cases hO : ∃ p, Wo p
      · obtain ⟨w, hw⟩ := hO
        obtain ⟨B, rb, be, b1, b2, b3, b4, b5, b6⟩ := qd_attr own fi se S Wo (!qg_par (col m)) hS
        have sw := (hWo.1 w hw).1
        have hlt2 : qd_cnt (fun p => S p ∧ ¬ B p) 8 < qd_cnt S 8 := qd_cnt_lt (fun p h => h.1) sw (fun h => h.2 (b2 w sw hw)) 8 (h8 w sw)
        obtain ⟨Vi, ti, Vo, to, hVi, hVo, hall2⟩ := ih (qd_cnt (fun p => S p ∧ ¬ B p) 8) (by omega) (fun p => S p ∧ ¬ B p) (Nat.le_refl _) (fun p h => h8 p h.1) (fun p h => b6 p h.1 h.2) (qg_par (col m))
        obtain ⟨tu, htu⟩ := qd_case2 own fi se col S (qg_par (col m)) A a5 Wo so hWo B rb be b1 b2 b3 b4 Vo to hVo
        refine ⟨Vi, ti, fun p => B p ∨ Vo p, tu, ⟨fun p h => (hVi.1 p h).1, hVi.2.1, ?_, hVi.2.2.2⟩, htu, ?_⟩
        · intro p vp ho q hq sq
          refine hVi.2.2.1 p vp ho q hq ⟨sq, ?_⟩
          have nb := b5 p (hVi.1 p vp).1 (hVi.1 p vp).2 (qd_ne ho)
          rcases hq with hq | hq
          · rw [hq]; exact nb.1
          · rw [hq]; exact nb.2
        · intro p sp
          by_cases b : B p
          · exact Or.inr (Or.inl b)
          · rcases hall2 p ⟨sp, b⟩ with z | z
            · exact Or.inl z
            · exact Or.inr (Or.inr z)
      · have hall' : ∀ p, S p → ¬ A p → Wi p := by
          intro p sp na
          rcases hall p ⟨sp, na⟩ with z | z
          · exact z
          · exact absurd ⟨p, z⟩ hO
        obtain ⟨tu, htu⟩ := qd_case1 own fi se col S hS (col m) hd (qg_par (col m)) rfl A rk al a1 a3 a4 Wi si hWi hall'
        exact ⟨S, tu, fun _ => False, fun _ => false, htu, ⟨fun _ z => z.elim, fun _ z => z.elim, fun _ z => z.elim, fun _ z => z.elim⟩, fun p sp => Or.inl sp⟩
    · exact ⟨fun _ => False, fun _ => false, fun _ => False, fun _ => false, ⟨fun _ z => z.elim, fun _ z => z.elim, fun _ z => z.elim, fun _ z => z.elim⟩, ⟨fun _ z => z.elim, fun _ z => z.elim, fun _ z => z.elim, fun _ z => z.elim⟩, fun p sp => absurd ⟨p, h8 p sp, sp⟩ hE⟩
theorem qd_won (W : Nat → Prop) (j : Bool) (sg : Nat → Bool) (hfi : ∀ p, p < 8 → fi p < 8) (hse : ∀ p, p < 8 → se p < 8) (hW : qd_Win own fi se col (fun p => p < 8) W j sg) (p : Nat) (hp : W p) : qg_Won own fi se col j sg p := by
  have hst : ∀ a b, qg_E own fi se j sg a b → W a → W b := by
    rintro a b ⟨ha, e⟩ wa
    rcases e with e | e
    · rw [e.2]; exact hW.2.1 a wa e.1
    · refine hW.2.2.1 a wa e.1 b e.2 ?_
      rcases e.2 with z | z
      · rw [z]; exact hfi a ha
      · rw [z]; exact hse a ha
  rintro ⟨q, hq, ⟨hb, hc⟩, hr⟩
  have wq : W q := hr (fun a b => W a → W b) hst (fun _ _ _ h1 _ h2 wa => h2 (h1 wa)) hp
  have hc2 := hc (fun a b => W a → W b ∧ qr_R (qd_Ed own fi se W j sg) (fun b => col b ≤ col q) a b)
    (fun a b e wa => ⟨hst a b e wa, qr_e ⟨wa, hst a b e wa, e.2⟩⟩)
    (fun a b c h1 hb h2 wa => ⟨(h2 (h1 wa).1).1, qr_c (h1 wa).2 hb.2 (h2 (h1 wa).1).2⟩) wq
  exact hW.2.2.2 q wq hb hc2.2
end
end
section
theorem qp_pig : ∀ n (f : Nat → Nat), (∀ i, i ≤ n → f i < n) → ∃ i j, i < j ∧ j ≤ n ∧ f i = f j
  | 0, f, h => absurd (h 0 (Nat.le_refl _)) (Nat.not_lt_zero _)
  | n + 1, f, h => by
    by_cases e : ∃ i, i ≤ n ∧ f i = f (n + 1)
    · obtain ⟨i, hi, ei⟩ := e
      exact ⟨i, n + 1, by omega, Nat.le_refl _, ei⟩
    · have hne : ∀ i, i ≤ n → f i ≠ f (n + 1) := fun i hi z => e ⟨i, hi, z⟩
      obtain ⟨i, j, hij, hj, eij⟩ := qp_pig n (fun i => if f i = n then f (n + 1) else f i) (by
        intro i hi
        have h1 := h i (by omega)
        have h2 := h (n + 1) (Nat.le_refl _)
        have h3 := hne i hi
        by_cases c : f i = n
        · rw [if_pos c]; omega
        · rw [if_neg c]; omega)
      refine ⟨i, j, hij, by omega, ?_⟩
      have h1 := hne i (by omega)
      have h2 := hne j (by omega)
      by_cases c : f i = n <;> by_cases d : f j = n
      · omega
      · rw [if_pos c, if_neg d] at eij; exact absurd eij.symm h2
      · rw [if_neg c, if_pos d] at eij; exact absurd eij h1
      · rw [if_neg c, if_neg d] at eij; exact eij
def qp_it (nx : Nat → Nat) (p : Nat) : Nat → Nat
  | 0 => p
  | n + 1 => nx (qp_it nx p n)
theorem qp_per (nx : Nat → Nat) (p : Nat) {a b : Nat} (e : qp_it nx p a = qp_it nx p b) : ∀ t, qp_it nx p (a + t) = qp_it nx p (b + t)
  | 0 => e
  | t + 1 => by
    show nx (qp_it nx p (a + t)) = nx (qp_it nx p (b + t))
    rw [qp_per nx p e t]
/-- the play from p that keeps to nx ends in a round trip: q is its place of greatest colour -/
theorem qp_trip (nx : Nat → Nat) (col : Nat → Nat) (hnx : ∀ p, p < 8 → nx p < 8) (p : Nat) (hp : p < 8) :
    ∃ q, q < 8 ∧ (∀ E : Nat → Nat → Prop, (∀ a, a < 8 → E a (nx a)) → qr_R E (fun b => b < 8) p q ∧ qr_R E (fun b => b < 8 ∧ col b ≤ col q) q q) := by
  have h8 : ∀ n, qp_it nx p n < 8 := by
    intro n
    induction n with
    | zero => exact hp
    | succ n ih => exact hnx _ ih
  obtain ⟨a, b, hab, _, e⟩ := qp_pig 8 (qp_it nx p) (fun i _ => h8 i)
  obtain ⟨m, hm, ham, hmax⟩ := qd_max (fun k => a ≤ k) (fun k => col (qp_it nx p k)) b ⟨a, hab, Nat.le_refl _⟩
  have ham' : a ≤ m := ham
  have hcol : ∀ j, a ≤ j → col (qp_it nx p j) ≤ col (qp_it nx p m) := by
    intro j
    induction j using Nat.strongRecOn with
    | ind j ih =>
      intro haj
      by_cases hjb : j < b
      · exact hmax j hjb haj
      · have e2 := qp_per nx p e (j - b)
        have e3 : b + (j - b) = j := by omega
        rw [e3] at e2
        rw [← e2]
        exact ih _ (by omega) (by omega)
  have hpath : ∀ (E : Nat → Nat → Prop) (M : Nat → Prop) (s : Nat), (∀ a, a < 8 → E a (nx a)) → (∀ j, s ≤ j → M (qp_it nx p j)) → ∀ k, qr_R E M (qp_it nx p s) (qp_it nx p (s + k + 1)) := by
    intro E M s hE hM k
    induction k with
    | zero => exact qr_e (hE _ (h8 s))
    | succ k ih => exact qr_c ih (hM _ (by omega)) (qr_e (hE _ (h8 _)))
  have hq : qp_it nx p (m + (b - a - 1) + 1) = qp_it nx p m := by
    have e2 := qp_per nx p e (m - a)
    have e3 : a + (m - a) = m := by omega
    have e4 : b + (m - a) = m + (b - a - 1) + 1 := by omega
    rw [e3, e4] at e2
    exact e2.symm
  refine ⟨qp_it nx p m, h8 m, fun E hE => ⟨?_, ?_⟩⟩
  · have := hpath E (fun b => b < 8) 0 hE (fun j _ => h8 j) (m + (b - a - 1))
    rw [Nat.zero_add, hq] at this
    exact this
  · have := hpath E (fun b => b < 8 ∧ col b ≤ col (qp_it nx p m)) m hE (fun j hj => ⟨h8 j, hcol j (by omega)⟩) (b - a - 1)
    rw [hq] at this
    exact this
section
variable (own : Nat → Bool) (fi se col : Nat → Nat)
theorem qp_dis (hfi : ∀ p, p < 8 → fi p < 8) (hse : ∀ p, p < 8 → se p < 8) (s t : Nat → Bool) (p : Nat) (hp : p < 8)
    (h0 : qg_Won own fi se col false s p) (h1 : qg_Won own fi se col true t p) : False := by
  obtain ⟨q, hq, hR⟩ := qp_trip (fun p => if own p = false then qg_mv fi se p (s p) else qg_mv fi se p (t p)) col (by
    intro p hp
    have hmv : ∀ b, qg_mv fi se p b < 8 := by
      intro b
      unfold qg_mv
      cases b
      · exact hfi p hp
      · exact hse p hp
    by_cases c : own p = false
    · rw [if_pos c]; exact hmv _
    · rw [if_neg c]; exact hmv _) p hp
  have hmv : ∀ p b, qg_mv fi se p b = fi p ∨ qg_mv fi se p b = se p := by
    intro p b
    cases b
    · exact Or.inl rfl
    · exact Or.inr rfl
  have e0 := hR (qg_E own fi se false s) (by
    intro a ha
    refine ⟨ha, ?_⟩
    by_cases c : own a = false
    · rw [if_pos c]; exact Or.inl ⟨c, rfl⟩
    · rw [if_neg c]; exact Or.inr ⟨c, hmv _ _⟩)
  have e1 := hR (qg_E own fi se true t) (by
    intro a ha
    refine ⟨ha, ?_⟩
    by_cases c : own a = false
    · rw [if_pos c]; exact Or.inr ⟨by rw [c]; decide, hmv _ _⟩
    · rw [if_neg c]; exact Or.inl ⟨by cases h : own a <;> simp_all, rfl⟩)
  cases hpar : qg_par (col q)
  · exact h1 ⟨q, hq, ⟨by rw [hpar]; decide, e1.2⟩, e1.1⟩
  · exact h0 ⟨q, hq, ⟨by rw [hpar]; decide, e0.2⟩, e0.1⟩
/-- the positions from which player 0 wins: by some plan -/
def qp_W0 (p : Nat) : Prop := ∃ c, c < 256 ∧ qg_Won own fi se col false (bt (nI c)) p
def qp_due (pl : Bool) (p : Nat) : Prop := if pl = true then ¬ qp_W0 own fi se col p else qp_W0 own fi se col p
def qp_good (pl : Bool) (ch : Nat → Bool) : Prop := ∀ p, p < 8 → qp_due own fi se col pl p → qg_Won own fi se col pl ch p
theorem qp_some (hfi : ∀ p, p < 8 → fi p < 8) (hse : ∀ p, p < 8 → se p < 8) (pl : Bool) : ∃ c, c < 256 ∧ qp_good own fi se col pl (bt (nI c)) := by
  obtain ⟨W0, s, W1, t, h0, h1, hall⟩ := qd_main own fi se col 8 (fun p => p < 8) (by
    have : ∀ (S : Nat → Prop) k, qd_cnt S k ≤ k := by
      intro S k
      induction k with
      | zero => exact Nat.le_refl _
      | succ k ih =>
        unfold qd_cnt
        by_cases c : S k
        · rw [if_pos c]; omega
        · rw [if_neg c]; omega
    exact this _ 8) (fun _ h => h) (fun p hp => Or.inl (hfi p hp)) false
  have w0 := qd_won own fi se col W0 false s hfi hse h0
  have w1 := qd_won own fi se col W1 true t hfi hse h1
  obtain ⟨c0, hc0, e0⟩ := qb_ch s
  obtain ⟨c1, hc1, e1⟩ := qb_ch t
  have w0' : ∀ p, W0 p → qg_Won own fi se col false (bt (nI c0)) p := fun p h => (qg_Won_c (fun _ _ => rfl) (fun p hp _ => e0 p hp) p).mpr (w0 p h)
  have w1' : ∀ p, W1 p → qg_Won own fi se col true (bt (nI c1)) p := fun p h => (qg_Won_c (fun _ _ => rfl) (fun p hp _ => e1 p hp) p).mpr (w1 p h)
  cases pl
  · refine ⟨c0, hc0, fun p hp hd => ?_⟩
    obtain ⟨c, _, hw⟩ : qp_W0 own fi se col p := hd
    rcases hall p hp with z | z
    · exact w0' p z
    · exact (qp_dis own fi se col hfi hse _ _ p hp hw (w1 p z)).elim
  · refine ⟨c1, hc1, fun p hp hd => ?_⟩
    have hd' : ¬ qp_W0 own fi se col p := hd
    rcases hall p hp with z | z
    · exact absurd ⟨c0, hc0, w0' p z⟩ hd'
    · exact w1' p z
end
theorem qp_W0_c {own own' : Nat → Bool} {fi se col : Nat → Nat} (ho : ∀ p, p < 8 → own p = own' p) (p : Nat) : qp_W0 own fi se col p ↔ qp_W0 own' fi se col p := by
  unfold qp_W0
  constructor
  · rintro ⟨c, hc, h⟩
    exact ⟨c, hc, (qg_Won_c ho (fun _ _ _ => rfl) p).mp h⟩
  · rintro ⟨c, hc, h⟩
    exact ⟨c, hc, (qg_Won_c ho (fun _ _ _ => rfl) p).mpr h⟩
theorem qp_due_c {own own' : Nat → Bool} {fi se col : Nat → Nat} (ho : ∀ p, p < 8 → own p = own' p) (pl : Bool) (p : Nat) : qp_due own fi se col pl p ↔ qp_due own' fi se col pl p := by
  unfold qp_due
  cases pl
  · exact qp_W0_c ho p
  · exact not_congr (qp_W0_c ho p)
theorem qp_good_c {own own' : Nat → Bool} {fi se col : Nat → Nat} (ho : ∀ p, p < 8 → own p = own' p) (pl : Bool) (ch : Nat → Bool) : qp_good own fi se col pl ch ↔ qp_good own' fi se col pl ch := by
  unfold qp_good
  constructor
  · intro h p hp hd
    exact (qg_Won_c ho (fun _ _ _ => rfl) p).mp (h p hp ((qp_due_c ho pl p).mpr hd))
  · intro h p hp hd
    exact (qg_Won_c ho (fun _ _ _ => rfl) p).mpr (h p hp ((qp_due_c ho pl p).mp hd))
end
section
def qx_N (a : Nat → Int32) (p : Nat) : Nat := (a p).toNatClampNeg
def qx_Rg (a : Nat → Int32) (B : Nat) : Prop := ∀ p, p < 8 → a p = nI (qx_N a p) ∧ qx_N a p < B
def qx_Re (r : Nat → Int32) (Q : Nat → Nat → Prop) : Prop := ∀ p, p < 8 → qb_Is (r p) (Q p)
def qx_pl (b : Bool) : Int32 := if b = true then 1 else 0
theorem qx_us {f : Nat → Int32} {k : Nat} {x : Int32} : upd f k x k = x := if_pos rfl
theorem qx_un {f : Nat → Int32} {k j : Nat} {x : Int32} (h : j ≠ k) : upd f k x j = f j := if_neg h
theorem qx_Re_c {r : Nat → Int32} {Q Q' : Nat → Nat → Prop} (h : qx_Re r Q) (e : ∀ p q, p < 8 → q < 8 → (Q p q ↔ Q' p q)) : qx_Re r Q' :=
  fun p hp => qb_Is_c (h p hp) (fun q hq => e p q hp hq)
theorem qx_up {r : Nat → Int32} {Q : Nat → Nat → Prop} {i : Nat} {v : Int32} (h : ∀ p, p < i → qb_Is (r p) (Q p)) (hv : qb_Is v (Q i)) : ∀ p, p < i + 1 → qb_Is (upd r i v p) (Q p) := by
  intro p hp
  by_cases e : p = i
  · subst e; rw [qx_us]; exact hv
  · rw [qx_un e]; exact h p (by omega)
theorem qx_bitp (mk : Int32) {i : Nat} (hi : i < 32) (b : Bool) : ((mk >>> (nI i &&& 31)) &&& 1) = qx_pl b ↔ bt mk i = b := by
  rw [qb_bit mk hi]
  unfold qx_pl
  cases bt mk i <;> cases b <;> decide
theorem qx_lay {post : SX → Prop} {o : Int32} {c f s r : Nat → Int32} {ch mk : Int32} (b : Bool) (hf : qx_Rg f 8) (hs : qx_Rg s 8)
    (h : ∀ r', qx_Re r' (qg_E (bt mk) (qx_N f) (qx_N s) b (bt ch)) → post (o, c, f, s, r')) : wpX_layOutMoves post (o, c, f, s, r) (qx_pl b) ch mk := by
  refine loop_0 (fun n i r => wX_layOutMoves_3 post (qx_pl b) ch mk o n (nI i) c f s r) (fun i r => ∀ p, p < i → qb_Is (r p) (qg_E (bt mk) (qx_N f) (qx_N s) b (bt ch) p)) 8 r lt_0 ?_ ?_
  · intro n r hI
    exact br_t (nI_le (a := 8) (b := 8) (Nat.le_refl _) (by decide)) (h r hI)
  · intro n i r hi hI ih
    have hc : (nI i).toNatClampNeg = i := nI_clamp (by omega)
    have hin : vp_in (nI i) 8 := vp_in_nI hi (by decide)
    have hfi := hf i hi
    have hsi := hs i hi
    refine br_f (nI_ge (b := 8) hi (by decide)) ⟨hin, nm_e ⟨hin, nm_e ?_⟩⟩
    rw [hc, hfi.1, hsi.1]
    refine br_c (fun e => ?_) (fun e => ?_)
    · have e' := (qx_bitp mk (by omega) b).mp e
      refine br_c (fun z => br_t rfl ⟨hin, nm_e (nm_r (nI_1 i) (ih _ ?_))⟩) (fun z => br_f (by decide) ⟨hin, nm_e (nm_r (nI_1 i) (ih _ ?_))⟩)
      · skip
        refine qx_up hI (qb_Is_c (qb_Is_1 hfi.2) (fun q hq => ?_))
        have z' := (qb_con ch (by omega)).mp z
        constructor
        · intro y; exact ⟨hi, Or.inl ⟨e', by rw [z']; exact y⟩⟩
        · rintro ⟨_, y | y⟩
          · rw [z'] at y; exact y.2
          · exact absurd e' y.1
      · skip
        refine qx_up hI (qb_Is_c (qb_Is_1 hsi.2) (fun q hq => ?_))
        have z' : bt ch i = true := by
          have := mt (qb_con ch (m := i) (by omega)).mpr z
          cases hb : bt ch i
          · exact absurd hb this
          · rfl
        constructor
        · intro y; exact ⟨hi, Or.inl ⟨e', by rw [z']; exact y⟩⟩
        · rintro ⟨_, y | y⟩
          · rw [z'] at y; exact y.2
          · exact absurd e' y.1
    · have e' : ¬ bt mk i = b := fun y => e ((qx_bitp mk (by omega) b).mpr y)
      refine ⟨hin, nm_e (nm_r (nI_1 i) (ih _ ?_))⟩
      refine qx_up hI (qb_Is_c (qb_Is_or (qb_Is_1 hfi.2) (qb_Is_1 hsi.2)) (fun q hq => ?_))
      constructor
      · intro y; exact ⟨hi, Or.inr ⟨e', y⟩⟩
      · rintro ⟨_, y | y⟩
        · exact absurd y.1 e'
        · exact y.2
theorem qx_con {P : Int32 → Prop} (x : Int32) {m : Nat} (hm : m < 32) (h1 : bt x m = true → P 1) (h0 : bt x m = false → P 0) : wpX_contains P x (nI m) := by
  refine br_c (fun z => h0 ((qb_con x hm).mp z)) (fun z => h1 ?_)
  cases hb : bt x m
  · exact absurd ((qb_con x hm).mpr hb) z
  · rfl
/-- one middle for all: the invariant of the inner walk -/
def qx_In (Q : Nat → Nat → Prop) (m i : Nat) (r : Nat → Int32) : Prop := ∀ p, p < 8 → qb_Is (r p) (fun q => Q p q ∨ (p < i ∧ Q p m ∧ Q m q))
theorem qx_In_0 {Q : Nat → Nat → Prop} {m : Nat} {r : Nat → Int32} (h : qx_Re r Q) : qx_In Q m 0 r :=
  fun p hp => qb_Is_c (h p hp) (fun q _ => ⟨Or.inl, fun z => z.elim id (fun y => absurd y.1 (Nat.not_lt_zero _))⟩)
theorem qx_In_8 {Q : Nat → Nat → Prop} {m : Nat} {r : Nat → Int32} (h : qx_In Q m 8 r) : qx_Re r (fun p q => Q p q ∨ (Q p m ∧ Q m q)) :=
  fun p hp => qb_Is_c (h p hp) (fun q _ => ⟨fun z => z.elim Or.inl (fun y => Or.inr y.2), fun z => z.elim Or.inl (fun y => Or.inr ⟨hp, y⟩)⟩)
theorem qx_In_b {Q : Nat → Nat → Prop} {m i : Nat} {r : Nat → Int32} (hm : m < 8) (hi : i < 8) (h : qx_In Q m i r) : bt (r i) m = true ↔ Q i m := by
  rw [h i hi m (by omega)]
  constructor
  · rintro ⟨_, z | z⟩
    · exact z
    · exact absurd z.1 (Nat.lt_irrefl _)
  · intro z; exact ⟨hm, Or.inl z⟩
theorem qx_In_f {Q : Nat → Nat → Prop} {m i : Nat} {r : Nat → Int32} (h : qx_In Q m i r) (hb : ¬ Q i m) : qx_In Q m (i + 1) r := by
  intro p hp
  refine qb_Is_c (h p hp) (fun q _ => ?_)
  constructor
  · rintro (z | z)
    · exact Or.inl z
    · exact Or.inr ⟨by omega, z.2⟩
  · rintro (z | z)
    · exact Or.inl z
    · by_cases e : p = i
      · subst e; exact absurd z.2.1 hb
      · exact Or.inr ⟨by omega, z.2⟩
theorem qx_In_t {Q : Nat → Nat → Prop} {m i : Nat} {r : Nat → Int32} (hm : m < 8) (h : qx_In Q m i r) (hb : Q i m) : qx_In Q m (i + 1) (upd r i (r i ||| r m)) := by
  intro p hp
  by_cases e : p = i
  · subst e
    rw [qx_us]
    refine qb_Is_c (qb_Is_or (h p hp) (h m hm)) (fun q _ => ?_)
    constructor
    · rintro ((z | z) | (z | z))
      · exact Or.inl z
      · exact Or.inr ⟨by omega, z.2⟩
      · exact Or.inr ⟨by omega, hb, z⟩
      · exact Or.inr ⟨by omega, hb, z.2.2⟩
    · rintro (z | z)
      · exact Or.inl (Or.inl z)
      · exact Or.inr (Or.inl z.2.2)
  · rw [qx_un e]
    refine qb_Is_c (h p hp) (fun q _ => ?_)
    constructor
    · rintro (z | z)
      · exact Or.inl z
      · exact Or.inr ⟨by omega, z.2⟩
    · rintro (z | z)
      · exact Or.inl z
      · exact Or.inr ⟨by omega, z.2⟩
theorem qx_pass1 {post : SX → Prop} {J2 : Int32 → (Nat → Int32) → (Nat → Int32) → (Nat → Int32) → (Nat → Int32) → Prop} {x1 o : Int32} {c f s r : Nat → Int32} {m : Nat} {Q : Nat → Nat → Prop} (hm : m < 8) (hr : qx_Re r Q)
    (h : ∀ r', qx_Re r' (fun p q => Q p q ∨ (Q p m ∧ Q m q)) → J2 (nI (m + 1)) c f s r') : ∃ n, wX_letPassThrough_23 post J2 x1 (nI m) o n 0 c f s r := by
  refine loop_0 (fun n i r => wX_letPassThrough_23 post J2 x1 (nI m) o n (nI i) c f s r) (fun i r => qx_In Q m i r) 8 r (qx_In_0 hr) ?_ ?_
  · intro n r hI
    exact br_t (nI_le (a := 8) (b := 8) (Nat.le_refl _) (by decide)) (nm_r (nI_1 m) (h r (qx_In_8 hI)))
  · intro n i r hi hI ih
    have hc : (nI i).toNatClampNeg = i := nI_clamp (by omega)
    have hcm : (nI m).toNatClampNeg = m := nI_clamp (by omega)
    have hin : vp_in (nI i) 8 := vp_in_nI hi (by decide)
    have hinm : vp_in (nI m) 8 := vp_in_nI hm (by decide)
    refine br_f (nI_ge (b := 8) hi (by decide)) ⟨hin, ?_⟩
    rw [hc, hcm]
    refine qx_con _ (by omega) (fun z => br_f (by decide) ⟨hin, hinm, hin, nm_e (nm_r (nI_1 i) (ih _ ?_))⟩) (fun z => br_t rfl (nm_r (nI_1 i) (ih _ ?_)))
    · exact qx_In_t hm hI ((qx_In_b hm hi hI).mp z)
    · refine qx_In_f hI (fun y => ?_)
      rw [(qx_In_b hm hi hI).mpr y] at z
      exact absurd z (by decide)
theorem qx_pass {post : SX → Prop} {o : Int32} {c f s r : Nat → Int32} {k : Nat} {E : Nat → Nat → Prop} (hc : qx_Rg c 6) (hk : k < 6)
    (hr : qx_Re r (qr_R E (fun b => b < 8 ∧ qx_N c b < k))) (h : ∀ r', qx_Re r' (qr_R E (fun b => b < 8 ∧ qx_N c b < k + 1)) → post (o, c, f, s, r')) : wpX_letPassThrough post (o, c, f, s, r) (nI k) := by
  refine loop_0 (fun n i r => wX_letPassThrough_2 post (nI k) o n (nI i) c f s r) (fun i r => qx_Re r (qr_R E (fun b => b < 8 ∧ (qx_N c b < k ∨ (qx_N c b = k ∧ b < i))))) 8 r ?_ ?_ ?_
  · refine qx_Re_c hr (fun p q _ _ => qr_congr (fun _ _ => Iff.rfl) (fun b => ?_) p q)
    constructor
    · intro z; exact ⟨z.1, Or.inl z.2⟩
    · intro z; exact ⟨z.1, by omega⟩
  · intro n r hI
    refine br_t (nI_le (a := 8) (b := 8) (Nat.le_refl _) (by decide)) (h r (qx_Re_c hI (fun p q _ _ => qr_congr (fun _ _ => Iff.rfl) (fun b => ?_) p q)))
    constructor
    · intro z; exact ⟨z.1, by omega⟩
    · intro z; exact ⟨z.1, by omega⟩
  · intro n i r hi hI ih
    have hci : (nI i).toNatClampNeg = i := nI_clamp (by omega)
    have hin : vp_in (nI i) 8 := vp_in_nI hi (by decide)
    have hcc := hc i hi
    refine br_f (nI_ge (b := 8) hi (by decide)) ⟨hin, ?_⟩
    rw [hci, hcc.1]
    refine br_c (fun e => ?_) (fun e => nm_r (nI_1 i) (ih _ ?_))
    · have e' : qx_N c i = k := (nI_eq (by omega) (by omega)).mp e
      refine qx_pass1 hi hI (fun r' hr' => ih r' (qx_Re_c hr' (fun p q _ _ => (qr_w (fun b => ?_) p q).symm)))
      constructor
      · rintro ⟨z, y | y⟩
        · exact Or.inl ⟨z, Or.inl y⟩
        · by_cases eb : b = i
          · exact Or.inr eb
          · exact Or.inl ⟨z, Or.inr ⟨y.1, by omega⟩⟩
      · rintro (⟨z, y | y⟩ | y)
        · exact ⟨z, Or.inl y⟩
        · exact ⟨z, Or.inr ⟨y.1, by omega⟩⟩
        · subst y; exact ⟨hi, Or.inr ⟨e', by omega⟩⟩
    · have e' : ¬ qx_N c i = k := fun z => e (by rw [z])
      refine qx_Re_c hI (fun p q _ _ => qr_congr (fun _ _ => Iff.rfl) (fun b => ?_) p q)
      constructor
      · intro z; exact ⟨z.1, by omega⟩
      · rintro ⟨z, y | y⟩
        · exact ⟨z, Or.inl y⟩
        · refine ⟨z, Or.inr ⟨y.1, ?_⟩⟩
          by_cases eb : b = i
          · subst eb; exact absurd y.1 e'
          · omega
theorem qx_trip {post : Int32 → Prop} {o : Int32} {c f s r : Nat → Int32} {k : Nat} {Q : Nat → Nat → Prop} (hc : qx_Rg c 6) (hk : k < 6) (hr : qx_Re r Q)
    (h : ∀ x, qb_Is x (fun p => qx_N c p = k ∧ Q p p) → post x) : wpX_onRoundTrip post (o, c, f, s, r) (nI k) := by
  refine loop_0 (fun n i x => wX_onRoundTrip_4 post (nI k) o c f s r n x (nI i)) (fun i x => qb_Is x (fun p => p < i ∧ qx_N c p = k ∧ Q p p)) 8 0 (qb_Is_0 (fun i _ z => absurd z.1 (Nat.not_lt_zero _))) ?_ ?_
  · intro n x hI
    exact br_t (nI_le (a := 8) (b := 8) (Nat.le_refl _) (by decide)) (h x (qb_Is_c hI (fun i hi => ⟨fun z => z.2, fun z => ⟨hi, z⟩⟩)))
  · intro n i x hi hI ih
    have hci : (nI i).toNatClampNeg = i := nI_clamp (by omega)
    have hin : vp_in (nI i) 8 := vp_in_nI hi (by decide)
    have hcc := hc i hi
    have keep : ¬ (qx_N c i = k ∧ Q i i) → qb_Is x (fun p => p < i + 1 ∧ qx_N c p = k ∧ Q p p) := by
      intro hn
      refine qb_Is_c hI (fun p hp => ⟨fun z => ⟨by omega, z.2⟩, fun z => ⟨?_, z.2⟩⟩)
      by_cases e : p = i
      · subst e; exact absurd z.2 hn
      · omega
    refine br_f (nI_ge (b := 8) hi (by decide)) ⟨hin, ?_⟩
    rw [hci, hcc.1]
    refine br_c (fun e => ⟨hin, ?_⟩) (fun e => nm_r (nI_1 i) (ih _ (keep ?_)))
    · have e' : qx_N c i = k := (nI_eq (by omega) (by omega)).mp e
      refine qx_con _ (by omega) (fun z => br_f (by decide) (nm_e (nm_r (nI_1 i) (ih _ ?_)))) (fun z => br_t rfl (nm_r (nI_1 i) (ih _ (keep ?_))))
      · have z' := ((hr i hi i (by omega)).mp z).2
        refine qb_Is_c (qb_Is_or hI (qb_Is_1 hi)) (fun p hp => ?_)
        constructor
        · rintro (y | y)
          · exact ⟨by omega, y.2⟩
          · subst y; exact ⟨by omega, e', z'⟩
        · intro y
          by_cases eb : p = i
          · exact Or.inr eb
          · exact Or.inl ⟨by omega, y.2⟩
      · rintro ⟨_, y⟩
        rw [(hr i hi i (by omega)).mpr ⟨hi, y⟩] at z
        exact absurd z (by decide)
    · rintro ⟨y, _⟩
      exact e (by rw [y])
theorem qx_reaching {post : Int32 → Prop} {o : Int32} {c f s r : Nat → Int32} {t : Int32} {Q : Nat → Nat → Prop} {L : Nat → Prop} (ht : qb_Is t L) (hr : qx_Re r Q)
    (h : ∀ x, qb_Is x (fun p => ∃ q, q < 8 ∧ Q p q ∧ L q) → post x) : wpX_reaching post (o, c, f, s, r) t := by
  refine loop_0 (fun n i x => wX_reaching_4 post t o c f s r n x (nI i)) (fun i x => qb_Is x (fun p => p < i ∧ ∃ q, q < 8 ∧ Q p q ∧ L q)) 8 0 (qb_Is_0 (fun i _ z => absurd z.1 (Nat.not_lt_zero _))) ?_ ?_
  · intro n x hI
    exact br_t (nI_le (a := 8) (b := 8) (Nat.le_refl _) (by decide)) (h x (qb_Is_c hI (fun i hi => ⟨fun z => z.2, fun z => ⟨hi, z⟩⟩)))
  · intro n i x hi hI ih
    have hci : (nI i).toNatClampNeg = i := nI_clamp (by omega)
    have hin : vp_in (nI i) 8 := vp_in_nI hi (by decide)
    have ha := qb_Is_and0 (hr i hi) ht
    refine br_f (nI_ge (b := 8) hi (by decide)) ⟨hin, ?_⟩
    rw [hci]
    refine br_c (fun e => nm_r (nI_1 i) (ih _ ?_)) (fun e => nm_e (nm_r (nI_1 i) (ih _ ?_)))
    · have e' := ha.mp e
      refine qb_Is_c hI (fun p hp => ⟨fun z => ⟨by omega, z.2⟩, fun z => ⟨?_, z.2⟩⟩)
      by_cases eb : p = i
      · subst eb; exact absurd z.2 e'
      · omega
    · refine qb_Is_c (qb_Is_or hI (qb_Is_1 hi)) (fun p hp => ?_)
      constructor
      · rintro (y | y)
        · exact ⟨by omega, y.2⟩
        · subst y
          refine ⟨by omega, ?_⟩
          by_cases w : ∃ q, q < 8 ∧ Q p q ∧ L q
          · exact w
          · exact absurd (ha.mpr w) e
      · intro y
        by_cases eb : p = i
        · exact Or.inr eb
        · exact Or.inl ⟨by omega, y.2⟩
theorem qx_par : ∀ k, k < 6 → ∀ b : Bool, ((nI k &&& 1) = qx_pl b ↔ qg_par k = b) := by decide +kernel
end
section
theorem qx_plan {post : Int32 → SX → Prop} {o : Int32} {c f s r : Nat → Int32} {ch mk : Int32} (b : Bool) (hc : qx_Rg c 6) (hf : qx_Rg f 8) (hs : qx_Rg s 8)
    (h : ∀ x r', qb_Is x (qg_Won (bt mk) (qx_N f) (qx_N s) (qx_N c) b (bt ch)) → post x (o, c, f, s, r')) : wpX_wonByPlan post (o, c, f, s, r) (qx_pl b) ch mk := by
  refine qx_lay b hf hs (fun r0 hr0 => ?_)
  refine loop_0 (σ := Int32 × (Nat → Int32)) (fun n k st => wX_wonByPlan_13 post (qx_pl b) n st.1 (nI k) o c f s st.2)
    (fun k st => qb_Is st.1 (fun q => qx_N c q < k ∧ qg_L (bt mk) (qx_N f) (qx_N s) (qx_N c) b (bt ch) q) ∧ qx_Re st.2 (qr_R (qg_E (bt mk) (qx_N f) (qx_N s) b (bt ch)) (fun b => b < 8 ∧ qx_N c b < k))) 6 (0, r0) ?_ ?_ ?_
  · refine ⟨qb_Is_0 (fun i _ z => absurd z.1 (Nat.not_lt_zero _)), qx_Re_c hr0 (fun p q _ _ => (qr_none (fun b z => absurd z.2 (Nat.not_lt_zero _)) p q).symm)⟩
  · rintro n ⟨lo, r1⟩ ⟨hI, hR⟩
    refine br_t (nI_le (a := 6) (b := 6) (Nat.le_refl _) (by decide)) (qx_reaching hI hR (fun x hx => h _ _ (qb_Is_c (qb_Is_not hx) (fun p hp => ?_))))
    refine not_congr ?_
    constructor
    · rintro ⟨q, hq, h1, h2⟩
      exact ⟨q, hq, h2.2, qr_mono (fun _ _ e => e) (fun b z => z.1) h1⟩
    · rintro ⟨q, hq, h1, h2⟩
      exact ⟨q, hq, qr_mono (fun _ _ e => e) (fun b z => ⟨z, (hc b z).2⟩) h2, (hc q hq).2, h1⟩
  · rintro n k ⟨lo, r1⟩ hk ⟨hI, hR⟩ ih
    refine br_f (nI_ge (b := 6) hk (by decide)) (qx_pass hc hk hR (fun r2 hR2 => ?_))
    have hpar := qx_par k hk b
    refine br_c (fun e => nm_r (nI_1 k) (ih (lo, r2) ⟨qb_Is_c hI (fun q hq => ⟨fun z => ⟨by omega, z.2⟩, fun z => ⟨?_, z.2⟩⟩), hR2⟩)) (fun e => ?_)
    · have e' := hpar.mp e
      by_cases eq : qx_N c q = k
      · have := z.2.1
        rw [eq] at this
        exact absurd e' this
      · omega
    · refine qx_trip hc hk hR2 (fun x hx => nm_e (nm_r (nI_1 k) (ih (lo ||| x, r2) ⟨qb_Is_c (qb_Is_or hI hx) (fun q hq => ?_), hR2⟩)))
      constructor
      · rintro (z | z)
        · exact ⟨by omega, z.2⟩
        · refine ⟨by omega, ?_, ?_⟩
          · rw [z.1]; exact fun y => e (hpar.mpr y)
          · exact qr_mono (fun _ _ e => e) (fun b y => ⟨y.1, by omega⟩) z.2
      · rintro ⟨z, w⟩
        by_cases eq : qx_N c q = k
        · exact Or.inr ⟨eq, qr_mono (fun _ _ e => e) (fun b y => ⟨y.1, by omega⟩) w.2⟩
        · exact Or.inl ⟨by omega, w⟩
theorem qx_w0 {post : Int32 → SX → Prop} {o : Int32} {c f s r : Nat → Int32} {mk : Int32} (hc : qx_Rg c 6) (hf : qx_Rg f 8) (hs : qx_Rg s 8)
    (h : ∀ x r', qb_Is x (qp_W0 (bt mk) (qx_N f) (qx_N s) (qx_N c)) → post x (o, c, f, s, r')) : wpX_wonByPlayer0 post (o, c, f, s, r) mk := by
  refine loop_0 (σ := Int32 × (Nat → Int32)) (fun n k st => wX_wonByPlayer0_4 post mk n st.1 (nI k) o c f s st.2)
    (fun k st => qb_Is st.1 (fun p => ∃ d, d < k ∧ qg_Won (bt mk) (qx_N f) (qx_N s) (qx_N c) false (bt (nI d)) p)) 256 (0, r) ?_ ?_ ?_
  · exact qb_Is_0 (fun i _ z => by obtain ⟨d, hd, _⟩ := z; omega)
  · rintro n ⟨w, r1⟩ hI
    exact br_t (nI_lt (a := 255) (b := 256) (by omega) (by decide)) (h w r1 hI)
  · rintro n k ⟨w, r1⟩ hk hI ih
    refine br_f (nI_nlt (a := 255) (b := k) (by omega) (by decide)) (qx_plan false hc hf hs (fun x r2 hx => nm_e (nm_r (nI_1 k) (ih (w ||| x, r2) (qb_Is_c (qb_Is_or hI hx) (fun p hp => ?_))))))
    constructor
    · rintro (⟨d, hd, z⟩ | z)
      · exact ⟨d, by omega, z⟩
      · exact ⟨k, by omega, z⟩
    · rintro ⟨d, hd, z⟩
      by_cases e : d = k
      · subst e; exact Or.inr z
      · exact Or.inl ⟨d, by omega, z⟩
theorem qx_wonBy {post : Int32 → SX → Prop} {o : Int32} {c f s r : Nat → Int32} (b : Bool) (hc : qx_Rg c 6) (hf : qx_Rg f 8) (hs : qx_Rg s 8)
    (h : ∀ x r', qb_Is x (qp_due (bt o) (qx_N f) (qx_N s) (qx_N c) b) → post x (o, c, f, s, r')) : wpX_wonBy post (o, c, f, s, r) (qx_pl b) := by
  refine qx_w0 hc hf hs (fun x r' hx => ?_)
  cases b
  · exact br_t rfl (h x r' hx)
  · exact br_f (by decide) (h _ r' (qb_Is_not hx))
theorem qx_holds {post : Int32 → SX → Prop} {o : Int32} {c f s r : Nat → Int32} {w ch : Int32} {D : Nat → Prop} (b : Bool) (hc : qx_Rg c 6) (hf : qx_Rg f 8) (hs : qx_Rg s 8) (hw : qb_Is w D)
    (h1 : ∀ r', (∀ p, p < 8 → D p → qg_Won (bt o) (qx_N f) (qx_N s) (qx_N c) b (bt ch) p) → post 1 (o, c, f, s, r'))
    (h0 : ∀ r', ¬ (∀ p, p < 8 → D p → qg_Won (bt o) (qx_N f) (qx_N s) (qx_N c) b (bt ch) p) → post 0 (o, c, f, s, r')) : wpX_holdsFor post (o, c, f, s, r) w (qx_pl b) ch := by
  refine qx_plan b hc hf hs (fun x r' hx => ?_)
  have e := qb_Is_sub hw hx
  exact br_c (fun z => h1 r' (e.mp z)) (fun z => h0 r' (fun y => z (e.mpr y)))
noncomputable def qx_cn (P : Nat → Prop) : Nat → Int32
  | 0 => 0
  | k + 1 => @ite Int32 (P k) (Classical.propDecidable _) (qx_cn P k + 1) (qx_cn P k)
theorem qx_cn_t {P : Nat → Prop} {k : Nat} (h : P k) : qx_cn P (k + 1) = qx_cn P k + 1 := if_pos h
theorem qx_cn_f {P : Nat → Prop} {k : Nat} (h : ¬ P k) : qx_cn P (k + 1) = qx_cn P k := if_neg h
theorem qx_cn_c {P P' : Nat → Prop} (h : ∀ k, P k ↔ P' k) : ∀ k, qx_cn P k = qx_cn P' k
  | 0 => rfl
  | k + 1 => by
    have ih := qx_cn_c h k
    by_cases c : P k
    · rw [qx_cn_t c, qx_cn_t ((h k).mp c), ih]
    · rw [qx_cn_f c, qx_cn_f (fun z => c ((h k).mpr z)), ih]
theorem qx_plans {post : Int32 → SX → Prop} {o : Int32} {c f s r : Nat → Int32} (b : Bool) (hc : qx_Rg c 6) (hf : qx_Rg f 8) (hs : qx_Rg s 8)
    (h : ∀ r', post (qx_cn (fun d => qp_good (bt o) (qx_N f) (qx_N s) (qx_N c) b (bt (nI d))) 256) (o, c, f, s, r')) : wpX_plans post (o, c, f, s, r) (qx_pl b) := by
  have hp : ∀ P : Int32 → Prop, P 1 → wpX_isPlayer P (qx_pl b) := by
    intro P hP
    cases b
    · exact br_t rfl hP
    · exact br_f (by decide) (br_t rfl hP)
  unfold wpX_plans
  dsimp only
  refine hp _ (br_f (by decide) (qx_wonBy b hc hf hs (fun w r1 hw => ?_)))
  refine loop_0 (σ := Int32 × (Nat → Int32)) (fun n k st => wX_plans_21 post (qx_pl b) w n st.1 (nI k) o c f s st.2)
    (fun k st => st.1 = qx_cn (fun d => qp_good (bt o) (qx_N f) (qx_N s) (qx_N c) b (bt (nI d))) k) 256 (0, r1) rfl ?_ ?_
  · rintro n ⟨x, r2⟩ hI
    have hI' : x = _ := hI
    refine br_t (nI_lt (a := 255) (b := 256) (by omega) (by decide)) ?_
    dsimp only
    rw [hI']
    exact h r2
  · rintro n k ⟨x, r2⟩ hk hI ih
    have hI' : x = _ := hI
    refine br_f (nI_nlt (a := 255) (b := k) (by omega) (by decide)) (qx_holds b hc hf hs hw (fun r3 hg => ?_) (fun r3 hg => ?_))
    · exact br_f (by decide) (nm_e (nm_r (nI_1 k) (ih (x + 1, r3) (by show x + 1 = _; rw [hI']; exact (qx_cn_t (P := fun d => qp_good (bt o) (qx_N f) (qx_N s) (qx_N c) b (bt (nI d))) hg).symm))))
    · exact br_t rfl (nm_r (nI_1 k) (ih (x, r3) (by show x = _; rw [hI']; exact (qx_cn_f (P := fun d => qp_good (bt o) (qx_N f) (qx_N s) (qx_N c) b (bt (nI d))) hg).symm)))
theorem qx_first {post : Int32 → SX → Prop} {o : Int32} {c f s r : Nat → Int32} (b : Bool) (hc : qx_Rg c 6) (hf : qx_Rg f 8) (hs : qx_Rg s 8)
    (h : ∀ j r', j < 256 → qp_good (bt o) (qx_N f) (qx_N s) (qx_N c) b (bt (nI j)) → (∀ d, d < j → ¬ qp_good (bt o) (qx_N f) (qx_N s) (qx_N c) b (bt (nI d))) → post (nI j) (o, c, f, s, r')) : wpX_firstPlan post (o, c, f, s, r) (qx_pl b) := by
  have hp : ∀ P : Int32 → Prop, P 1 → wpX_isPlayer P (qx_pl b) := by
    intro P hP
    cases b
    · exact br_t rfl hP
    · exact br_f (by decide) (br_t rfl hP)
  unfold wpX_firstPlan
  dsimp only
  refine hp _ (br_f (by decide) (qx_wonBy b hc hf hs (fun w r1 hw => ?_)))
  refine loop_0 (fun n k r => wX_firstPlan_18 post (qx_pl b) w n (nI k) o c f s r)
    (fun k _ => ∀ d, d < k → ¬ qp_good (bt o) (qx_N f) (qx_N s) (qx_N c) b (bt (nI d))) 255 r1 lt_0 ?_ ?_
  · intro n r2 hI
    refine br_t (nI_le (a := 255) (b := 255) (by omega) (by decide)) (h 255 r2 (by omega) ?_ hI)
    obtain ⟨d, hd, hg⟩ := qp_some (bt o) (qx_N f) (qx_N s) (qx_N c) (fun p hp => (hf p hp).2) (fun p hp => (hs p hp).2) b
    by_cases e : d = 255
    · subst e; exact hg
    · exact absurd hg (hI d (by omega))
  · intro n k r2 hk hI ih
    refine br_f (nI_ge (b := 255) hk (by decide)) (qx_holds b hc hf hs hw (fun r3 hg => ?_) (fun r3 hg => ?_))
    · exact br_f (by decide) (h k r3 (by omega) hg hI)
    · exact br_t rfl (nm_r (nI_1 k) (ih r3 (lt_s hI hg)))
theorem qx_good {post : Int32 → SX → Prop} {o : Int32} {c f s r : Nat → Int32} {ch : Int32} (b : Bool) (hc : qx_Rg c 6) (hf : qx_Rg f 8) (hs : qx_Rg s 8)
    (h1 : ∀ r', qp_good (bt o) (qx_N f) (qx_N s) (qx_N c) b (bt ch) → post 1 (o, c, f, s, r'))
    (h0 : ∀ r', ¬ qp_good (bt o) (qx_N f) (qx_N s) (qx_N c) b (bt ch) → post 0 (o, c, f, s, r')) : wpX_good post (o, c, f, s, r) (qx_pl b) ch := by
  have hp : ∀ P : Int32 → Prop, P 1 → wpX_isPlayer P (qx_pl b) := by
    intro P hP
    cases b
    · exact br_t rfl hP
    · exact br_f (by decide) (br_t rfl hP)
  unfold wpX_good
  dsimp only
  refine hp _ (br_f (by decide) (qx_wonBy b hc hf hs (fun w r1 hw => ?_)))
  exact qx_holds b hc hf hs hw (fun r3 hg => ⟨rfl, h1 r3 hg⟩) (fun r3 hg => ⟨rfl, h0 r3 hg⟩)
theorem qx_contested {post : Int32 → SX → Prop} {o : Int32} {c f s r : Nat → Int32} (hc : qx_Rg c 6) (hf : qx_Rg f 8) (hs : qx_Rg s 8)
    (h : ∀ r', post (qx_cn (fun p => ¬ ∀ q, q < 8 → (qp_W0 (bt o) (qx_N f) (qx_N s) (qx_N c) q ↔ qp_W0 (bt (o ^^^ ((1 : Int32) <<< (nI p &&& 31)))) (qx_N f) (qx_N s) (qx_N c) q)) 8) (o, c, f, s, r')) : wpX_contested post (o, c, f, s, r) := by
  unfold wpX_contested
  dsimp only
  refine qx_w0 hc hf hs (fun w r1 hw => ?_)
  refine loop_0 (σ := Int32 × (Nat → Int32)) (fun n k st => wX_contested_13 post w n st.1 (nI k) o c f s st.2)
    (fun k st => st.1 = qx_cn (fun p => ¬ ∀ q, q < 8 → (qp_W0 (bt o) (qx_N f) (qx_N s) (qx_N c) q ↔ qp_W0 (bt (o ^^^ ((1 : Int32) <<< (nI p &&& 31)))) (qx_N f) (qx_N s) (qx_N c) q)) k) 8 (0, r1) rfl ?_ ?_
  · rintro n ⟨x, r2⟩ hI
    have hI' : x = _ := hI
    refine br_t (nI_le (a := 8) (b := 8) (by omega) (by decide)) ?_
    dsimp only
    rw [hI']
    exact h r2
  · rintro n k ⟨x, r2⟩ hk hI ih
    have hI' : x = _ := hI
    refine br_f (nI_ge (b := 8) hk (by decide)) (qx_w0 hc hf hs (fun y r3 hy => ?_))
    refine br_c (fun e => nm_r (nI_1 k) (ih (x, r3) ?_)) (fun e => nm_e (nm_r (nI_1 k) (ih (x + 1, r3) ?_)))
    · show x = _
      rw [hI']
      refine (qx_cn_f (P := fun p => ¬ ∀ q, q < 8 → (qp_W0 (bt o) (qx_N f) (qx_N s) (qx_N c) q ↔ qp_W0 (bt (o ^^^ ((1 : Int32) <<< (nI p &&& 31)))) (qx_N f) (qx_N s) (qx_N c) q)) (fun z => z (fun q hq => ?_))).symm
      rw [e] at hy
      have a := hw q (by omega)
      have b := hy q (by omega)
      constructor
      · intro t; exact (b.mp (a.mpr ⟨hq, t⟩)).2
      · intro t; exact (a.mp (b.mpr ⟨hq, t⟩)).2
    · show x + 1 = _
      rw [hI']
      exact (qx_cn_t (P := fun p => ¬ ∀ q, q < 8 → (qp_W0 (bt o) (qx_N f) (qx_N s) (qx_N c) q ↔ qp_W0 (bt (o ^^^ ((1 : Int32) <<< (nI p &&& 31)))) (qx_N f) (qx_N s) (qx_N c) q)) (fun z => e (qb_Is_eq hw hy z))).symm
end
section
theorem qy_Is_and {r s : Int32} {P Q : Nat → Prop} (h : qb_Is r P) (h' : qb_Is s Q) : qb_Is (r &&& s) (fun i => P i ∧ Q i) := by
  intro i hi
  rw [b_and, Bool.and_eq_true, h i hi, h' i hi]
  exact ⟨fun z => ⟨z.1.1, z.1.2, z.2.2⟩, fun z => ⟨⟨z.1, z.2.1⟩, z.1, z.2.2⟩⟩
theorem qy_90 {post : SY → Prop} {J3 : Int32 → (Nat → Int32) → (Nat → Int32) → (Nat → Int32) → (Nat → Int32) → (Nat → Int32) → Prop} {x1 x2 x7 kn wi : Int32} {ow c f s r : Nat → Int32} {i k : Nat} {P : Nat → Prop}
    (hc : qx_Rg c 6) (hi : i < 8) (hk : k < 6) (h7 : qb_Is x7 P)
    (h : ∀ v, qb_Is v (fun q => P q ∧ qx_N c i ≤ k ∧ qx_N c q ≤ k) → J3 (nI (i + 1)) ow c f s (upd r i v)) : ∃ n, wY_close_90 post J3 x1 x2 (nI k) (nI i) x7 kn wi ow c f s r n 0 0 := by
  have hci : (nI i).toNatClampNeg = i := nI_clamp (by omega)
  have hini : vp_in (nI i) 8 := vp_in_nI hi (by decide)
  refine loop_0 (fun n j x => wY_close_90 post J3 x1 x2 (nI k) (nI i) x7 kn wi ow c f s r n x (nI j)) (fun j x => qb_Is x (fun q => q < j ∧ qx_N c q ≤ k)) 8 0 (qb_Is_0 (fun i _ z => absurd z.1 (Nat.not_lt_zero _))) ?_ ?_
  · intro n x hI
    refine br_t (nI_le (a := 8) (b := 8) (Nat.le_refl _) (by decide)) ⟨hini, ?_⟩
    rw [hci, (hc i hi).1]
    have hcc := (hc i hi).2
    refine br_c (fun e => ⟨hini, nm_e (nm_r (nI_1 i) (h 0 (qb_Is_0 (fun q _ z => ?_))))⟩) (fun e => ⟨hini, nm_e (nm_r (nI_1 i) (h _ (qb_Is_c (qy_Is_and h7 hI) (fun q hq => ?_))))⟩)
    · have := (nI_ltI (by omega) (by omega)).mp e
      omega
    · have : ¬ k < qx_N c i := fun z => e ((nI_ltI (by omega) (by omega)).mpr z)
      exact ⟨fun z => ⟨z.1, by omega, z.2.2⟩, fun z => ⟨z.1, hq, z.2.2⟩⟩
  · intro n j x hj hI ih
    have hcj : (nI j).toNatClampNeg = j := nI_clamp (by omega)
    have hinj : vp_in (nI j) 8 := vp_in_nI hj (by decide)
    have hcc := hc j hj
    refine br_f (nI_ge (b := 8) hj (by decide)) ⟨hinj, ?_⟩
    rw [hcj, hcc.1]
    refine br_c (fun e => nm_r (nI_1 j) (ih _ (qb_Is_c hI (fun q hq => ⟨fun z => ⟨by omega, z.2⟩, fun z => ⟨?_, z.2⟩⟩)))) (fun e => nm_e (nm_r (nI_1 j) (ih _ (qb_Is_c (qb_Is_or hI (qb_Is_1 hj)) (fun q hq => ?_)))))
    · have := (nI_ltI (by omega) (by omega)).mp e
      by_cases eq : q = j
      · subst eq; have := z.2; omega
      · omega
    · have hh : ¬ k < qx_N c j := fun z => e ((nI_ltI (by omega) (by omega)).mpr z)
      constructor
      · rintro (z | z)
        · exact ⟨by omega, z.2⟩
        · subst z; exact ⟨by omega, by omega⟩
      · intro z
        by_cases eq : q = j
        · exact Or.inr eq
        · exact Or.inl ⟨by omega, z.2⟩
theorem qy_169 {post : SY → Prop} {J : Int32 → (Nat → Int32) → (Nat → Int32) → (Nat → Int32) → (Nat → Int32) → (Nat → Int32) → Prop} {kn wi : Int32} {ow c f s r : Nat → Int32} {m : Nat} {Q : Nat → Nat → Prop} (hm : m < 8) (hr : qx_Re r Q)
    (h : ∀ r', qx_Re r' (fun p q => Q p q ∨ (Q p m ∧ Q m q)) → J (nI (m + 1)) ow c f s r') : ∃ n, wY_close_169 post J (nI m) kn wi n 0 ow c f s r := by
  refine loop_0 (fun n i r => wY_close_169 post J (nI m) kn wi n (nI i) ow c f s r) (fun i r => qx_In Q m i r) 8 r (qx_In_0 hr) ?_ ?_
  · intro n r hI
    exact br_t (nI_le (a := 8) (b := 8) (Nat.le_refl _) (by decide)) (nm_r (nI_1 m) (h r (qx_In_8 hI)))
  · intro n i r hi hI ih
    have hc : (nI i).toNatClampNeg = i := nI_clamp (by omega)
    have hcm : (nI m).toNatClampNeg = m := nI_clamp (by omega)
    have hin : vp_in (nI i) 8 := vp_in_nI hi (by decide)
    have hinm : vp_in (nI m) 8 := vp_in_nI hm (by decide)
    refine br_f (nI_ge (b := 8) hi (by decide)) ⟨hin, ?_⟩
    rw [hc, hcm]
    refine br_c (fun z => ⟨hin, hinm, hin, nm_e (nm_r (nI_1 i) (ih _ ?_))⟩) (fun z => nm_r (nI_1 i) (ih _ ?_))
    · exact qx_In_t hm hI ((qx_In_b hm hi hI).mp ((qb_bit1 _ (by omega)).mp z))
    · exact qx_In_f hI (fun y => z ((qb_bit1 _ (by omega)).mpr ((qx_In_b hm hi hI).mpr y)))
theorem qy_159 {post : SY → Prop} {kn wi : Int32} {ow c f s r : Nat → Int32} {E : Nat → Nat → Prop} (hr : qx_Re r E)
    (h : ∀ r', qx_Re r' (qr_R E (fun b => b < 8)) → post (kn, wi, ow, c, f, s, r')) : ∃ n, wY_close_159 post kn wi n 0 ow c f s r := by
  refine loop_0 (fun n i r => wY_close_159 post kn wi n (nI i) ow c f s r) (fun i r => qx_Re r (qr_R E (fun b => b < i))) 8 r ?_ ?_ ?_
  · exact qx_Re_c hr (fun p q _ _ => (qr_none (fun b => Nat.not_lt_zero b) p q).symm)
  · intro n r hI
    exact br_t (nI_le (a := 8) (b := 8) (Nat.le_refl _) (by decide)) (h r hI)
  · intro n i r hi hI ih
    refine br_f (nI_ge (b := 8) hi (by decide)) (qy_169 hi hI (fun r' hr' => ih r' (qx_Re_c hr' (fun p q _ _ => (qr_w (fun b => ?_) p q).symm))))
    omega
theorem qy_plne (b : Bool) (x : Bool) : qx_pl x = qx_pl b ↔ x = b := by cases x <;> cases b <;> decide
theorem qy_close {post : SY → Prop} {kn wi : Int32} {ow c f s r : Nat → Int32} {ch : Int32} (ob : Nat → Bool) (ho : ∀ p, p < 8 → ow p = qx_pl (ob p)) (b : Bool) (k : Nat) (hk : k < 6) (hc : qx_Rg c 6) (hf : qx_Rg f 8) (hs : qx_Rg s 8)
    (h : ∀ r', qx_Re r' (qr_R (fun p q => qg_E ob (qx_N f) (qx_N s) b (bt ch) p q ∧ qx_N c p ≤ k ∧ qx_N c q ≤ k) (fun b => b < 8)) → post (kn, wi, ow, c, f, s, r')) : wpY_close post (kn, wi, ow, c, f, s, r) (qx_pl b) ch (nI k) := by
  refine loop_0 (fun n i r => wY_close_3 post (qx_pl b) ch (nI k) kn wi n (nI i) ow c f s r) (fun i r => ∀ p, p < i → qb_Is (r p) (fun q => qg_E ob (qx_N f) (qx_N s) b (bt ch) p q ∧ qx_N c p ≤ k ∧ qx_N c q ≤ k)) 8 r lt_0 ?_ ?_
  · intro n r hI
    exact br_t (nI_le (a := 8) (b := 8) (Nat.le_refl _) (by decide)) (qy_159 hI h)
  · intro n i r hi hI ih
    have hci : (nI i).toNatClampNeg = i := nI_clamp (by omega)
    have hin : vp_in (nI i) 8 := vp_in_nI hi (by decide)
    have hfi := hf i hi
    have hsi := hs i hi
    have hor : qb_Is (((1 : Int32) <<< (nI (qx_N f i) &&& 31)) ||| ((1 : Int32) <<< (nI (qx_N s i) &&& 31))) (fun q => q = qx_N f i ∨ q = qx_N s i) := qb_Is_or (qb_Is_1 hfi.2) (qb_Is_1 hsi.2)
    refine br_f (nI_ge (b := 8) hi (by decide)) ⟨hin, hin, nm_e ?_⟩
    rw [hci, hfi.1, hsi.1]
    have h62 : ∀ z0 : Int32, qb_Is z0 (fun q => q = qg_mv (qx_N f) (qx_N s) i (bt ch i)) →
        wY_close_62 post (wY_close_3 post (qx_pl b) ch (nI k) kn wi n) (qx_pl b) ch (nI k) (nI i) (((1 : Int32) <<< (nI (qx_N f i) &&& 31)) ||| ((1 : Int32) <<< (nI (qx_N s i) &&& 31))) z0 kn wi ow c f s r := by
      intro z0 hz
      refine ⟨hin, ?_⟩
      rw [hci, ho i hi]
      refine br_c (fun e => qy_90 hc hi hk hz (fun v hv => ih _ (qx_up hI (qb_Is_c hv (fun q hq => ?_))))) (fun e => qy_90 hc hi hk hor (fun v hv => ih _ (qx_up hI (qb_Is_c hv (fun q hq => ?_)))))
      · have e' := (qy_plne b (ob i)).mp e
        refine and_congr ?_ Iff.rfl
        constructor
        · intro y; exact ⟨hi, Or.inl ⟨e', y⟩⟩
        · rintro ⟨_, y | y⟩
          · exact y.2
          · exact absurd e' y.1
      · have e' : ¬ ob i = b := fun y => e ((qy_plne b (ob i)).mpr y)
        refine and_congr ?_ Iff.rfl
        constructor
        · intro y; exact ⟨hi, Or.inr ⟨e', y⟩⟩
        · rintro ⟨_, y | y⟩
          · exact absurd y.1 e'
          · exact y.2
    refine br_c (fun e => ⟨hin, h62 _ ?_⟩) (fun e => ⟨hin, h62 _ ?_⟩)
    · have e' := (qb_bit1 ch (by omega)).mp e
      rw [e']
      exact qb_Is_1 hsi.2
    · have e' : bt ch i = false := by
        cases hb : bt ch i
        · rfl
        · exact absurd ((qb_bit1 ch (by omega)).mpr hb) e
      rw [e']
      exact qb_Is_1 hfi.2
theorem qy_res {E : Nat → Nat → Prop} {col : Nat → Nat} {k p q : Nat} (hp : col p ≤ k) (hq : col q ≤ k) :
    qr_R (fun a b => E a b ∧ col a ≤ k ∧ col b ≤ k) (fun b => b < 8) p q ↔ qr_R E (fun b => b < 8 ∧ col b ≤ k) p q := by
  constructor
  · intro h
    exact (h (fun a b => qr_R E (fun b => b < 8 ∧ col b ≤ k) a b ∧ col a ≤ k ∧ col b ≤ k) (fun a b e => ⟨qr_e e.1, e.2⟩) (fun a b c h1 hb h2 => ⟨qr_c h1.1 ⟨hb, h1.2.2⟩ h2.1, h1.2.1, h2.2.2⟩)).1
  · intro h
    exact qr_mono (fun _ _ e => e) (fun b z => z.1) (qr_res (K := fun b => col b ≤ k) (fun b z => z.2) hp hq h)
def qy_a (b : Bool) : Nat := if b = true then 0 else 1
theorem qy_par (b : Bool) (k : Nat) : (qg_par (qy_a b + 2 * k) ≠ b) ∧ qg_par (qy_a b + 2 * k + 1) = b := by
  unfold qg_par qy_a
  cases b
  · have e1 : (1 + 2 * k) % 2 = 1 := by omega
    have e2 : ¬ (1 + 2 * k + 1) % 2 = 1 := by omega
    simp [e1, e2]
  · have e1 : ¬ (0 + 2 * k) % 2 = 1 := by omega
    have e2 : (0 + 2 * k + 1) % 2 = 1 := by omega
    simp [e2]
theorem qy_a_le (b : Bool) : qy_a b ≤ 1 := by cases b <;> decide
theorem qy_95 {post : Int32 → SY → Prop} {x3 kn wi : Int32} {ow c f s r : Nat → Int32} {L : Nat → Prop} {Q : Nat → Nat → Prop} (hL : qb_Is x3 L) (hr : qx_Re r Q)
    (h : ∀ x, qb_Is x (fun p => ¬ L p ∧ ¬ ∃ q, q < 8 ∧ Q p q ∧ L q) → post x (kn, wi, ow, c, f, s, r)) : ∃ n, wY_plan_95 post x3 kn wi ow c f s r n 0 0 := by
  refine loop_0 (fun n j x => wY_plan_95 post x3 kn wi ow c f s r n x (nI j)) (fun j x => qb_Is x (fun p => p < j ∧ ¬ L p ∧ ¬ ∃ q, q < 8 ∧ Q p q ∧ L q)) 8 0 (qb_Is_0 (fun i _ z => absurd z.1 (Nat.not_lt_zero _))) ?_ ?_
  · intro n x hI
    exact br_t (nI_le (a := 8) (b := 8) (Nat.le_refl _) (by decide)) (h x (qb_Is_c hI (fun p hp => ⟨fun z => z.2, fun z => ⟨hp, z⟩⟩)))
  · intro n j x hj hI ih
    have hcj : (nI j).toNatClampNeg = j := nI_clamp (by omega)
    have hinj : vp_in (nI j) 8 := vp_in_nI hj (by decide)
    have ha := qb_Is_and0 (hr j hj) hL
    have keep : ¬ (¬ L j ∧ ¬ ∃ q, q < 8 ∧ Q j q ∧ L q) → qb_Is x (fun p => p < j + 1 ∧ ¬ L p ∧ ¬ ∃ q, q < 8 ∧ Q p q ∧ L q) := by
      intro hn
      refine qb_Is_c hI (fun p hp => ⟨fun z => ⟨by omega, z.2⟩, fun z => ⟨?_, z.2⟩⟩)
      by_cases e : p = j
      · subst e; exact absurd z.2 hn
      · omega
    refine br_f (nI_ge (b := 8) hj (by decide)) ?_
    refine br_c (fun e => ⟨hinj, ?_⟩) (fun e => nm_r (nI_1 j) (ih _ (keep (fun z => ?_))))
    · rw [hcj]
      have e' := (qb_bit0 x3 (m := j) (by omega)).mp e
      have nL : ¬ L j := by
        intro z
        rw [(hL j (by omega)).mpr ⟨hj, z⟩] at e'
        exact absurd e' (by decide)
      refine br_c (fun y => nm_e (nm_r (nI_1 j) (ih _ (qb_Is_c (qb_Is_or hI (qb_Is_1 hj)) (fun p hp => ?_))))) (fun y => nm_r (nI_1 j) (ih _ (keep (fun z => y (ha.mpr z.2)))))
      constructor
      · rintro (z | z)
        · exact ⟨by omega, z.2⟩
        · subst z; exact ⟨by omega, nL, ha.mp y⟩
      · intro z
        by_cases eq : p = j
        · exact Or.inr eq
        · exact Or.inl ⟨by omega, z.2⟩
    · refine e ((qb_bit0 x3 (m := j) (by omega)).mpr ?_)
      cases hb : bt x3 j
      · rfl
      · exact absurd ((hL j (by omega)).mp hb).2 z.1
theorem qy_25 {post : Int32 → SY → Prop} {J7 : Int32 → Int32 → Int32 → Int32 → (Nat → Int32) → (Nat → Int32) → (Nat → Int32) → (Nat → Int32) → (Nat → Int32) → Prop} {x1 x2 x3 kn wi : Int32} {ow c f s r : Nat → Int32} {L : Nat → Prop} {Q : Nat → Nat → Prop} {k : Nat} (hk : k < 6) (hc : qx_Rg c 6) (hL : qb_Is x3 L) (hr : qx_Re r Q)
    (h : ∀ x, qb_Is x (fun p => L p ∨ (qx_N c p = k ∧ Q p p)) → J7 x (nI (k + 2)) kn wi ow c f s r) : ∃ n, wY_plan_25 post J7 x1 x2 (nI k) kn wi ow c f s r n x3 0 := by
  refine loop_0 (fun n j x => wY_plan_25 post J7 x1 x2 (nI k) kn wi ow c f s r n x (nI j)) (fun j x => qb_Is x (fun p => L p ∨ (p < j ∧ qx_N c p = k ∧ Q p p))) 8 x3 ?_ ?_ ?_
  · exact qb_Is_c hL (fun p hp => ⟨Or.inl, fun z => z.elim id (fun y => absurd y.1 (Nat.not_lt_zero _))⟩)
  · intro n x hI
    exact br_t (nI_le (a := 8) (b := 8) (Nat.le_refl _) (by decide)) (nm_r (nI_add k 2) (h x (qb_Is_c hI (fun p hp => ⟨fun z => z.elim Or.inl (fun y => Or.inr y.2), fun z => z.elim Or.inl (fun y => Or.inr ⟨hp, y⟩)⟩))))
  · intro n j x hj hI ih
    have hcj : (nI j).toNatClampNeg = j := nI_clamp (by omega)
    have hinj : vp_in (nI j) 8 := vp_in_nI hj (by decide)
    have hcc := hc j hj
    have keep : ¬ (qx_N c j = k ∧ Q j j) → qb_Is x (fun p => L p ∨ (p < j + 1 ∧ qx_N c p = k ∧ Q p p)) := by
      intro hn
      refine qb_Is_c hI (fun p hp => ⟨fun z => z.elim Or.inl (fun y => Or.inr ⟨by omega, y.2⟩), fun z => z.elim Or.inl (fun y => Or.inr ⟨?_, y.2⟩)⟩)
      by_cases e : p = j
      · subst e; exact absurd y.2 hn
      · omega
    refine br_f (nI_ge (b := 8) hj (by decide)) ⟨hinj, ?_⟩
    rw [hcj, hcc.1]
    refine br_c (fun e => ⟨hinj, ?_⟩) (fun e => nm_r (nI_1 j) (ih _ (keep (fun z => e (by rw [z.1])))))
    have e' : qx_N c j = k := (nI_eq (by omega) (by omega)).mp e
    have hb : ((r j >>> (nI j &&& 31)) &&& 1) = 1 ↔ Q j j := by
      rw [qb_bit1 _ (by omega), hr j hj j (by omega)]
      exact ⟨fun z => z.2, fun z => ⟨hj, z⟩⟩
    refine br_c (fun y => nm_e (nm_r (nI_1 j) (ih _ (qb_Is_c (qb_Is_or hI (qb_Is_1 hj)) (fun p hp => ?_))))) (fun y => nm_r (nI_1 j) (ih _ (keep (fun z => y (hb.mpr z.2)))))
    constructor
    · rintro ((z | z) | z)
      · exact Or.inl z
      · exact Or.inr ⟨by omega, z.2⟩
      · subst z; exact Or.inr ⟨by omega, e', hb.mp y⟩
    · rintro (z | z)
      · exact Or.inl (Or.inl z)
      · by_cases eq : p = j
        · exact Or.inr eq
        · exact Or.inl (Or.inr ⟨by omega, z.2⟩)
theorem qy_plan {post : Int32 → SY → Prop} {kn wi : Int32} {ow c f s r : Nat → Int32} {ch : Int32} (ob : Nat → Bool) (ho : ∀ p, p < 8 → ow p = qx_pl (ob p)) (b : Bool) (hc : qx_Rg c 6) (hf : qx_Rg f 8) (hs : qx_Rg s 8)
    (h : ∀ x r', qb_Is x (qg_Won ob (qx_N f) (qx_N s) (qx_N c) b (bt ch)) → post x (kn, wi, ow, c, f, s, r')) : wpY_plan post (kn, wi, ow, c, f, s, r) (qx_pl b) ch := by
  have ha : (1 : Int32) - qx_pl b = nI (qy_a b + 2 * 0) := by cases b <;> decide
  have hle := qy_a_le b
  refine nm_r ha ?_
  refine loop_0 (σ := Int32 × (Nat → Int32)) (fun n t st => wY_plan_7 post (qx_pl b) ch n st.1 (nI (qy_a b + 2 * t)) kn wi ow c f s st.2)
    (fun t st => qb_Is st.1 (fun q => qx_N c q < qy_a b + 2 * t ∧ qg_L ob (qx_N f) (qx_N s) (qx_N c) b (bt ch) q)) 3 (0, r) ?_ ?_ ?_
  · refine qb_Is_0 (fun i _ z => ?_)
    have z1 := z.1
    have z2 := z.2.1
    have e0 : qx_N c i = 0 := by omega
    rw [e0] at z2
    have hb : b = false := by
      cases b
      · rfl
      · have : qy_a true = 0 := rfl
        omega
    subst hb
    exact z2 rfl
  · rintro n ⟨lo, r1⟩ hI
    have hI' : qb_Is lo (fun q => qg_L ob (qx_N f) (qx_N s) (qx_N c) b (bt ch) q) := qb_Is_c hI (fun q hq => ⟨fun z => z.2, fun z => ⟨by have := (hc q hq).2; omega, z⟩⟩)
    refine br_t (nI_le (a := 6) (b := qy_a b + 2 * 3) (by omega) (by omega)) (qy_close ob ho b 5 (by omega) hc hf hs (fun r2 hr2 => qy_95 hI' hr2 (fun x hx => h x r2 (qb_Is_c hx (fun p hp => ?_)))))
    have hR : ∀ q, q < 8 → (qr_R (fun p q => qg_E ob (qx_N f) (qx_N s) b (bt ch) p q ∧ qx_N c p ≤ 5 ∧ qx_N c q ≤ 5) (fun b => b < 8) p q ↔ qr_R (qg_E ob (qx_N f) (qx_N s) b (bt ch)) (fun b => b < 8) p q) := by
      intro q hq
      rw [qy_res (by have := (hc p hp).2; omega) (by have := (hc q hq).2; omega)]
      exact qr_congr (fun _ _ => Iff.rfl) (fun b => ⟨fun z => z.1, fun z => ⟨z, by have := (hc b z).2; omega⟩⟩) p q
    constructor
    · rintro ⟨_, z⟩ ⟨q, hq, h1, h2⟩
      exact z ⟨q, hq, (hR q hq).mpr h2, h1⟩
    · intro z
      refine ⟨fun y => z ⟨p, hp, y, qr_mono (fun _ _ e => e) (fun b w => w.1) y.2⟩, ?_⟩
      rintro ⟨q, hq, h1, h2⟩
      exact z ⟨q, hq, h2, (hR q hq).mp h1⟩
  · rintro n t ⟨lo, r1⟩ ht hI ih
    have hp := qy_par b t
    refine br_f (nI_ge (a := qy_a b + 2 * t) (b := 6) (by omega) (by decide)) (qy_close ob ho b (qy_a b + 2 * t) (by omega) hc hf hs (fun r2 hr2 => qy_25 (by omega) hc hI hr2 (fun x hx => ih (x, r2) (qb_Is_c hx (fun q hq => ?_)))))
    have hR : qx_N c q = qy_a b + 2 * t → (qr_R (fun p q => qg_E ob (qx_N f) (qx_N s) b (bt ch) p q ∧ qx_N c p ≤ qy_a b + 2 * t ∧ qx_N c q ≤ qy_a b + 2 * t) (fun b => b < 8) q q ↔ qr_R (qg_E ob (qx_N f) (qx_N s) b (bt ch)) (fun b => b < 8 ∧ qx_N c b ≤ qx_N c q) q q) := by
      intro e
      rw [e]
      exact qy_res (by omega) (by omega)
    constructor
    · rintro (z | z)
      · exact ⟨by have := z.1; omega, z.2⟩
      · exact ⟨by have := z.1; omega, by rw [z.1]; exact hp.1, (hR z.1).mp z.2⟩
    · rintro ⟨z, w⟩
      by_cases e1 : qx_N c q < qy_a b + 2 * t
      · exact Or.inl ⟨e1, w⟩
      · by_cases e2 : qx_N c q = qy_a b + 2 * t
        · exact Or.inr ⟨e2, (hR e2).mpr w.2⟩
        · have e3 : qx_N c q = qy_a b + 2 * t + 1 := by omega
          have := w.1
          rw [e3] at this
          exact absurd hp.2 this
end
section
theorem qy_w0 {post : Int32 → SY → Prop} {kn wi : Int32} {ow c f s r : Nat → Int32} (ob : Nat → Bool) (ho : ∀ p, p < 8 → ow p = qx_pl (ob p)) (hc : qx_Rg c 6) (hf : qx_Rg f 8) (hs : qx_Rg s 8)
    (h : ∀ x r', qb_Is x (qp_W0 ob (qx_N f) (qx_N s) (qx_N c)) → post x (kn, wi, ow, c, f, s, r')) : wpY_wonBy0 post (kn, wi, ow, c, f, s, r) := by
  refine loop_0 (fun n i x => wY_wonBy0_4 post kn wi ow c f s r n x (nI i)) (fun i x => qb_Is x (fun p => p < i ∧ ob p = false)) 8 0 (qb_Is_0 (fun i _ z => absurd z.1 (Nat.not_lt_zero _))) ?_ ?_
  · intro n mi hmi
    refine br_t (nI_le (a := 8) (b := 8) (Nat.le_refl _) (by decide)) ?_
    refine loop_0 (σ := Int32 × (Nat → Int32)) (fun n k st => wY_wonBy0_35 post mi n st.1 (nI k) kn wi ow c f s st.2)
      (fun k st => qb_Is st.1 (fun p => ∃ d, d < k ∧ (nI d &&& (mi ^^^ (-1))) = 0 ∧ qg_Won ob (qx_N f) (qx_N s) (qx_N c) false (bt (nI d)) p)) 256 (0, r) ?_ ?_ ?_
    · exact qb_Is_0 (fun i _ z => by obtain ⟨d, hd, _⟩ := z; omega)
    · rintro n ⟨w, r1⟩ hI
      refine br_t (nI_le (a := 256) (b := 256) (by omega) (by decide)) (h w r1 (qb_Is_c hI (fun p hp => ?_)))
      constructor
      · rintro ⟨d, hd, _, z⟩
        exact ⟨d, hd, z⟩
      · rintro ⟨d, hd, z⟩
        obtain ⟨d', hd', e⟩ := qb_small (nI d &&& mi) (fun i hi hb => by
          rw [b_and, Bool.and_eq_true] at hb
          exact ((hmi i hi).mp hb.2).1)
        refine ⟨d', hd', ?_, (qg_Won_c (fun _ _ => rfl) (fun q hq hoq => ?_) p).mp z⟩
        · rw [← e, qb_sub]
          intro i hi hb
          rw [b_and, Bool.and_eq_true] at hb
          exact hb.2
        · rw [← e, b_and, (hmi q (by omega)).mpr ⟨hq, hq, hoq⟩, Bool.and_true]
    · rintro n k ⟨w, r1⟩ hk hI ih
      refine br_f (nI_ge (b := 256) hk (by decide)) (br_c (fun e => ?_) (fun e => nm_r (nI_1 k) (ih (w, r1) (qb_Is_c hI (fun p hp => ?_)))))
      · refine qy_plan ob ho false hc hf hs (fun x r2 hx => nm_e (nm_r (nI_1 k) (ih (w ||| x, r2) (qb_Is_c (qb_Is_or hI hx) (fun p hp => ?_)))))
        constructor
        · rintro (⟨d, hd, z⟩ | z)
          · exact ⟨d, by omega, z⟩
          · exact ⟨k, by omega, e, z⟩
        · rintro ⟨d, hd, z⟩
          by_cases eq : d = k
          · subst eq; exact Or.inr z.2
          · exact Or.inl ⟨d, by omega, z⟩
      · constructor
        · rintro ⟨d, hd, z⟩
          exact ⟨d, by omega, z⟩
        · rintro ⟨d, hd, z⟩
          by_cases eq : d = k
          · subst eq; exact absurd z.1 e
          · exact ⟨d, by omega, z⟩
  · intro n i x hi hI ih
    have hci : (nI i).toNatClampNeg = i := nI_clamp (by omega)
    have hin : vp_in (nI i) 8 := vp_in_nI hi (by decide)
    refine br_f (nI_ge (b := 8) hi (by decide)) ⟨hin, ?_⟩
    rw [hci, ho i hi]
    refine br_c (fun e => nm_e (nm_r (nI_1 i) (ih _ (qb_Is_c (qb_Is_or hI (qb_Is_1 hi)) (fun p hp => ?_))))) (fun e => nm_r (nI_1 i) (ih _ (qb_Is_c hI (fun p hp => ⟨fun z => ⟨by omega, z.2⟩, fun z => ⟨?_, z.2⟩⟩))))
    · have e' : ob i = false := (qy_plne false (ob i)).mp e
      constructor
      · rintro (z | z)
        · exact ⟨by omega, z.2⟩
        · subst z; exact ⟨by omega, e'⟩
      · intro z
        by_cases eq : p = i
        · exact Or.inr eq
        · exact Or.inl ⟨by omega, z.2⟩
    · by_cases eq : p = i
      · subst eq
        exact absurd ((qy_plne false (ob p)).mpr z.2) e
      · omega
/-- what is kept of the positions won: nothing, or the mask -/
def qy_K (kn wi : Int32) (W : Nat → Prop) : Prop := kn = 0 ∨ qb_Is wi W
theorem qy_region {post : Int32 → SY → Prop} {kn wi : Int32} {ow c f s r : Nat → Int32} (ob : Nat → Bool) (ho : ∀ p, p < 8 → ow p = qx_pl (ob p)) (hc : qx_Rg c 6) (hf : qx_Rg f 8) (hs : qx_Rg s 8)
    (hK : qy_K kn wi (qp_W0 ob (qx_N f) (qx_N s) (qx_N c)))
    (h : ∀ x kn' wi' r', qb_Is x (qp_W0 ob (qx_N f) (qx_N s) (qx_N c)) → qy_K kn' wi' (qp_W0 ob (qx_N f) (qx_N s) (qx_N c)) → post x (kn', wi', ow, c, f, s, r')) : wpY_region post (kn, wi, ow, c, f, s, r) := by
  refine br_c (fun e => qy_w0 ob ho hc hf hs (fun x r' hx => h x 1 x r' hx (Or.inr hx))) (fun e => ?_)
  rcases hK with z | z
  · exact absurd z e
  · exact h wi kn wi r z (Or.inr z)
theorem qy_good {post : Int32 → SY → Prop} {kn wi : Int32} {ow c f s r : Nat → Int32} {ch : Int32} (ob : Nat → Bool) (ho : ∀ p, p < 8 → ow p = qx_pl (ob p)) (b : Bool) (hc : qx_Rg c 6) (hf : qx_Rg f 8) (hs : qx_Rg s 8)
    (hK : qy_K kn wi (qp_W0 ob (qx_N f) (qx_N s) (qx_N c)))
    (h1 : ∀ kn' wi' r', qy_K kn' wi' (qp_W0 ob (qx_N f) (qx_N s) (qx_N c)) → qp_good ob (qx_N f) (qx_N s) (qx_N c) b (bt ch) → post 1 (kn', wi', ow, c, f, s, r'))
    (h0 : ∀ kn' wi' r', qy_K kn' wi' (qp_W0 ob (qx_N f) (qx_N s) (qx_N c)) → ¬ qp_good ob (qx_N f) (qx_N s) (qx_N c) b (bt ch) → post 0 (kn', wi', ow, c, f, s, r')) : wpY_good post (kn, wi, ow, c, f, s, r) (qx_pl b) ch := by
  have h32 : ∀ (w kn' wi' : Int32) (r' : Nat → Int32), qy_K kn' wi' (qp_W0 ob (qx_N f) (qx_N s) (qx_N c)) → qb_Is w (qp_due ob (qx_N f) (qx_N s) (qx_N c) b) → wY_good_32 post (qx_pl b) ch w kn' wi' ow c f s r' := by
    intro w kn' wi' r' hK' hw
    refine qy_plan ob ho b hc hf hs (fun x r2 hx => ?_)
    have e := qb_Is_sub hw hx
    exact br_c (fun z => h1 kn' wi' r2 hK' (e.mp z)) (fun z => h0 kn' wi' r2 hK' (fun y => z (e.mpr y)))
  cases b
  · refine br_f (by decide) (br_t (by decide) (br_t rfl (qy_region ob ho hc hf hs hK (fun x kn' wi' r' hx hK' => ?_))))
    exact h32 x kn' wi' r' hK' hx
  · refine br_f (by decide) (br_t (by decide) (br_f (by decide) (qy_region ob ho hc hf hs hK (fun x kn' wi' r' hx hK' => ?_))))
    exact h32 _ kn' wi' r' hK' (qb_Is_not hx)
theorem qy_plans {post : Int32 → SY → Prop} {kn wi : Int32} {ow c f s r : Nat → Int32} (ob : Nat → Bool) (ho : ∀ p, p < 8 → ow p = qx_pl (ob p)) (b : Bool) (hc : qx_Rg c 6) (hf : qx_Rg f 8) (hs : qx_Rg s 8)
    (hK : qy_K kn wi (qp_W0 ob (qx_N f) (qx_N s) (qx_N c)))
    (h : ∀ kn' wi' r', qy_K kn' wi' (qp_W0 ob (qx_N f) (qx_N s) (qx_N c)) → post (qx_cn (fun d => qp_good ob (qx_N f) (qx_N s) (qx_N c) b (bt (nI d))) 256) (kn', wi', ow, c, f, s, r')) : wpY_plans post (kn, wi, ow, c, f, s, r) (qx_pl b) := by
  have hl : ∃ n, wY_plans_16 post (qx_pl b) n 0 0 kn wi ow c f s r := by
    refine loop_0 (σ := Int32 × Int32 × Int32 × (Nat → Int32)) (fun n k st => wY_plans_16 post (qx_pl b) n st.1 (nI k) st.2.1 st.2.2.1 ow c f s st.2.2.2)
      (fun k st => qy_K st.2.1 st.2.2.1 (qp_W0 ob (qx_N f) (qx_N s) (qx_N c)) ∧ st.1 = qx_cn (fun d => qp_good ob (qx_N f) (qx_N s) (qx_N c) b (bt (nI d))) k) 256 (0, kn, wi, r) ⟨hK, rfl⟩ ?_ ?_
    · rintro n ⟨x, kn1, wi1, r1⟩ ⟨hK1, hI⟩
      have hI' : x = _ := hI
      refine br_t (nI_le (a := 256) (b := 256) (by omega) (by decide)) ?_
      dsimp only
      rw [hI']
      exact h kn1 wi1 r1 hK1
    · rintro n k ⟨x, kn1, wi1, r1⟩ hk ⟨hK1, hI⟩ ih
      have hI' : x = _ := hI
      refine br_f (nI_ge (b := 256) hk (by decide)) (qy_good ob ho b hc hf hs hK1 (fun kn2 wi2 r2 hK2 hg => ?_) (fun kn2 wi2 r2 hK2 hg => ?_))
      · exact br_f (by decide) (nm_e (nm_r (nI_1 k) (ih (x + 1, kn2, wi2, r2) ⟨hK2, by show x + 1 = _; rw [hI']; exact (qx_cn_t (P := fun d => qp_good ob (qx_N f) (qx_N s) (qx_N c) b (bt (nI d))) hg).symm⟩)))
      · exact br_t rfl (nm_r (nI_1 k) (ih (x, kn2, wi2, r2) ⟨hK2, by show x = _; rw [hI']; exact (qx_cn_f (P := fun d => qp_good ob (qx_N f) (qx_N s) (qx_N c) b (bt (nI d))) hg).symm⟩))
  cases b
  · exact br_f (by decide) (br_t (by decide) hl)
  · exact br_f (by decide) (br_t (by decide) hl)
theorem qy_first {post : Int32 → SY → Prop} {kn wi : Int32} {ow c f s r : Nat → Int32} (ob : Nat → Bool) (ho : ∀ p, p < 8 → ow p = qx_pl (ob p)) (b : Bool) (hc : qx_Rg c 6) (hf : qx_Rg f 8) (hs : qx_Rg s 8)
    (hK : qy_K kn wi (qp_W0 ob (qx_N f) (qx_N s) (qx_N c)))
    (h : ∀ j kn' wi' r', qy_K kn' wi' (qp_W0 ob (qx_N f) (qx_N s) (qx_N c)) → j < 256 → qp_good ob (qx_N f) (qx_N s) (qx_N c) b (bt (nI j)) → (∀ d, d < j → ¬ qp_good ob (qx_N f) (qx_N s) (qx_N c) b (bt (nI d))) → post (nI j) (kn', wi', ow, c, f, s, r')) : wpY_firstPlan post (kn, wi, ow, c, f, s, r) (qx_pl b) := by
  have hl : ∃ n, wY_firstPlan_14 post (qx_pl b) n 0 kn wi ow c f s r := by
    refine loop_0 (σ := Int32 × Int32 × (Nat → Int32)) (fun n k st => wY_firstPlan_14 post (qx_pl b) n (nI k) st.1 st.2.1 ow c f s st.2.2)
      (fun k st => qy_K st.1 st.2.1 (qp_W0 ob (qx_N f) (qx_N s) (qx_N c)) ∧ ∀ d, d < k → ¬ qp_good ob (qx_N f) (qx_N s) (qx_N c) b (bt (nI d))) 256 (kn, wi, r) ⟨hK, lt_0⟩ ?_ ?_
    · rintro n ⟨kn1, wi1, r1⟩ ⟨hK1, hI⟩
      obtain ⟨d, hd, hg⟩ := qp_some ob (qx_N f) (qx_N s) (qx_N c) (fun p hp => (hf p hp).2) (fun p hp => (hs p hp).2) b
      exact absurd hg (hI d hd)
    · rintro n k ⟨kn1, wi1, r1⟩ hk ⟨hK1, hI⟩ ih
      refine br_f (nI_ge (b := 256) hk (by decide)) (qy_good ob ho b hc hf hs hK1 (fun kn2 wi2 r2 hK2 hg => ?_) (fun kn2 wi2 r2 hK2 hg => ?_))
      · exact br_f (by decide) (h k kn2 wi2 r2 hK2 hk hg hI)
      · exact br_t rfl (nm_r (nI_1 k) (ih (kn2, wi2, r2) ⟨hK2, lt_s hI hg⟩))
  cases b
  · exact br_f (by decide) (br_t (by decide) hl)
  · exact br_f (by decide) (br_t (by decide) hl)
theorem qy_back (ow : Nat → Int32) (p : Nat) : upd (upd ow p (1 - ow p)) p (1 - upd ow p (1 - ow p) p) = ow := by
  funext j
  by_cases e : j = p
  · subst e
    rw [qx_us, qx_us]
    grind
  · rw [qx_un e, qx_un e]
def qy_ot (ob : Nat → Bool) (p : Nat) : Nat → Bool := fun j => if j = p then !ob j else ob j
theorem qy_ot_o {ow : Nat → Int32} {ob : Nat → Bool} (ho : ∀ p, p < 8 → ow p = qx_pl (ob p)) (i : Nat) (hi : i < 8) : ∀ p, p < 8 → upd ow i (1 - ow i) p = qx_pl (qy_ot ob i p) := by
  intro p hp
  unfold qy_ot
  by_cases e : p = i
  · subst e
    rw [qx_us, if_pos rfl, ho p hp]
    cases ob p <;> decide
  · rw [qx_un e, if_neg e]
    exact ho p hp
theorem qy_contested {post : Int32 → SY → Prop} {kn wi : Int32} {ow c f s r : Nat → Int32} (ob : Nat → Bool) (ho : ∀ p, p < 8 → ow p = qx_pl (ob p)) (hc : qx_Rg c 6) (hf : qx_Rg f 8) (hs : qx_Rg s 8)
    (hK : qy_K kn wi (qp_W0 ob (qx_N f) (qx_N s) (qx_N c)))
    (h : ∀ kn' wi' r', qy_K kn' wi' (qp_W0 ob (qx_N f) (qx_N s) (qx_N c)) → post (qx_cn (fun p => ¬ ∀ q, q < 8 → (qp_W0 ob (qx_N f) (qx_N s) (qx_N c) q ↔ qp_W0 (qy_ot ob p) (qx_N f) (qx_N s) (qx_N c) q)) 8) (kn', wi', ow, c, f, s, r')) : wpY_contested post (kn, wi, ow, c, f, s, r) := by
  unfold wpY_contested
  dsimp only
  refine qy_region ob ho hc hf hs hK (fun w kn1 wi1 r1 hw hK1 => ?_)
  refine loop_0 (σ := Int32 × (Nat → Int32)) (fun n k st => wY_contested_9 post w n st.1 (nI k) kn1 wi1 ow c f s st.2)
    (fun k st => st.1 = qx_cn (fun p => ¬ ∀ q, q < 8 → (qp_W0 ob (qx_N f) (qx_N s) (qx_N c) q ↔ qp_W0 (qy_ot ob p) (qx_N f) (qx_N s) (qx_N c) q)) k) 8 (0, r1) rfl ?_ ?_
  · rintro n ⟨x, r2⟩ hI
    have hI' : x = _ := hI
    refine br_t (nI_le (a := 8) (b := 8) (by omega) (by decide)) ?_
    dsimp only
    rw [hI']
    exact h kn1 wi1 r2 hK1
  · rintro n k ⟨x, r2⟩ hk hI ih
    have hI' : x = _ := hI
    have hck : (nI k).toNatClampNeg = k := nI_clamp (by omega)
    have hin : vp_in (nI k) 8 := vp_in_nI hk (by decide)
    have hend : ∀ (x' : Int32) (r' : Nat → Int32), x' = qx_cn (fun p => ¬ ∀ q, q < 8 → (qp_W0 ob (qx_N f) (qx_N s) (qx_N c) q ↔ qp_W0 (qy_ot ob p) (qx_N f) (qx_N s) (qx_N c) q)) (k + 1) →
        wY_contested_40 post (wY_contested_9 post w n) w x' (nI k) kn1 wi1 (upd ow k (1 - ow k)) c f s r' := by
      intro x' r' hx'
      refine ⟨hin, hin, nm_r (e' := ow) ?_ (nm_r (nI_1 k) (ih (x', r') hx'))⟩
      rw [hck]
      exact qy_back ow k
    refine br_f (nI_ge (b := 8) hk (by decide)) ⟨hin, hin, nm_e ?_⟩
    rw [hck]
    refine qy_w0 (qy_ot ob k) (qy_ot_o ho k hk) hc hf hs (fun y r3 hy => ?_)
    refine br_c (fun e => hend x r3 ?_) (fun e => nm_e (hend (x + 1) r3 ?_))
    · rw [hI']
      refine (qx_cn_f (P := fun p => ¬ ∀ q, q < 8 → (qp_W0 ob (qx_N f) (qx_N s) (qx_N c) q ↔ qp_W0 (qy_ot ob p) (qx_N f) (qx_N s) (qx_N c) q)) (fun z => z (fun q hq => ?_))).symm
      rw [e] at hy
      have a := hw q (by omega)
      have b := hy q (by omega)
      constructor
      · intro t; exact (b.mp (a.mpr ⟨hq, t⟩)).2
      · intro t; exact (a.mp (b.mpr ⟨hq, t⟩)).2
    · rw [hI']
      exact (qx_cn_t (P := fun p => ¬ ∀ q, q < 8 → (qp_W0 ob (qx_N f) (qx_N s) (qx_N c) q ↔ qp_W0 (qy_ot ob p) (qx_N f) (qx_N s) (qx_N c) q)) (fun z => e (qb_Is_eq hw hy z))).symm
end
section
def qf_c (ob : Nat → Bool) (f s : Nat → Int32) (x : Int32) (p : Nat) : Bool :=
  if ob p = true then bt x (qx_N f p) && bt x (qx_N s p) else bt x (qx_N f p) || bt x (qx_N s p)
def qf_s (ob : Nat → Bool) (f s : Nat → Int32) (x : Int32) (p : Nat) : Int32 := if qf_c ob f s x p = true then x ||| ((1 : Int32) <<< (nI p &&& 31)) else x
def qf_r (ob : Nat → Bool) (f s : Nat → Int32) (x : Int32) : Nat → Int32
  | 0 => x
  | i + 1 => qf_s ob f s (qf_r ob f s x i) i
def qf_R (ob : Nat → Bool) (f s : Nat → Int32) (x : Int32) : Nat → Int32
  | 0 => x
  | k + 1 => qf_r ob f s (qf_R ob f s x k) 8
theorem qf_r_c {ob ob' : Nat → Bool} (ho : ∀ p, p < 8 → ob p = ob' p) (f s : Nat → Int32) (x : Int32) : ∀ i, i ≤ 8 → qf_r ob f s x i = qf_r ob' f s x i
  | 0, _ => rfl
  | i + 1, hi => by
    unfold qf_r
    rw [qf_r_c ho f s x i (by omega)]
    unfold qf_s qf_c
    rw [ho i (by omega)]
theorem qf_R_c {ob ob' : Nat → Bool} (ho : ∀ p, p < 8 → ob p = ob' p) (f s : Nat → Int32) (x : Int32) : ∀ k, qf_R ob f s x k = qf_R ob' f s x k
  | 0 => rfl
  | k + 1 => by
    unfold qf_R
    rw [qf_R_c ho f s x k, qf_r_c ho f s _ 8 (Nat.le_refl _)]
theorem qf_into {post : Int32 → Prop} {o : Int32} {c f s r : Nat → Int32} {x : Int32} {p : Nat} (hf : qx_Rg f 8) (hs : qx_Rg s 8) (hp : p < 8)
    (h : post (if qf_c (bt o) f s x p = true then 1 else 0)) : wpX_isForcedInto post (o, c, f, s, r) x (nI p) := by
  have hc : (nI p).toNatClampNeg = p := nI_clamp (by omega)
  have hin : vp_in (nI p) 8 := vp_in_nI hp (by decide)
  have hfp := hf p hp
  have hsp := hs p hp
  unfold qf_c at h
  refine ⟨hin, ?_⟩
  rw [hc, hfp.1, hsp.1]
  refine qx_con x (by omega) (fun a => ⟨hin, qx_con x (by omega) (fun b => qx_con o (by omega) (fun d => ?_) (fun d => ?_)) (fun b => qx_con o (by omega) (fun d => ?_) (fun d => ?_))⟩)
    (fun a => ⟨hin, qx_con x (by omega) (fun b => qx_con o (by omega) (fun d => ?_) (fun d => ?_)) (fun b => qx_con o (by omega) (fun d => ?_) (fun d => ?_))⟩)
  all_goals rw [a, b, d] at h
  · exact br_f (by decide) (br_f (by decide) (br_f (by decide) h))
  · exact br_t rfl (br_f (by decide) h)
  · exact br_f (by decide) (br_f (by decide) (br_t rfl h))
  · exact br_t rfl (br_f (by decide) h)
  · exact br_f (by decide) (br_t rfl h)
  · exact br_t rfl (br_t rfl (br_f (by decide) h))
  · exact br_f (by decide) (br_t rfl h)
  · exact br_t rfl (br_t rfl (br_t rfl h))
theorem qf_x {post : Int32 → Prop} {o : Int32} {c f s r : Nat → Int32} {a b : Nat} (hf : qx_Rg f 8) (hs : qx_Rg s 8) (ha : a < 8) (hb : b < 8)
    (h : post (if bt (qf_R (bt o) f s ((1 : Int32) <<< (nI b &&& 31)) 8) a = true then 1 else 0)) : wpX_canForce post (o, c, f, s, r) (nI a) (nI b) := by
  have hp : ∀ (P : Int32 → Prop) (i : Nat), i < 8 → P 1 → wpX_isPosition P (nI i) := by
    intro P i hi hP
    exact br_f (nI_pos (by omega)) (br_f (nI_ge (b := 8) hi (by decide)) hP)
  unfold wpX_canForce
  dsimp only
  refine hp _ a ha (br_f (by decide) (hp _ b hb (br_f (by decide) (nm_e ?_))))
  refine loop_0 (fun n k x => wX_canForce_23 post (nI a) o c f s r n x (nI k)) (fun k x => x = qf_R (bt o) f s ((1 : Int32) <<< (nI b &&& 31)) k) 8 ((1 : Int32) <<< (nI b &&& 31)) rfl ?_ ?_
  · intro n x hI
    subst hI
    refine br_t (nI_le (a := 8) (b := 8) (by omega) (by decide)) (qx_con _ (by omega) (fun z => ⟨rfl, ?_⟩) (fun z => ⟨rfl, ?_⟩))
    · rw [z] at h; exact h
    · rw [z] at h; exact h
  · intro n k x hk hI ih
    refine br_f (nI_ge (b := 8) hk (by decide)) ?_
    refine loop_0 (fun m i y => wX_canForce_33 post (wX_canForce_23 post (nI a) o c f s r n) (nI a) (nI k) o c f s r m y (nI i)) (fun i y => y = qf_r (bt o) f s x i) 8 x rfl ?_ ?_
    · intro m y hy
      refine br_t (nI_le (a := 8) (b := 8) (by omega) (by decide)) (nm_r (nI_1 k) (ih y ?_))
      rw [hy, hI]
      rfl
    · intro m i y hi hy ih2
      refine br_f (nI_ge (b := 8) hi (by decide)) (qf_into hf hs hi ?_)
      by_cases e : qf_c (bt o) f s y i = true
      · rw [if_pos e]
        refine br_f (by decide) (nm_e (nm_r (nI_1 i) (ih2 _ ?_)))
        show _ = qf_s (bt o) f s (qf_r (bt o) f s x i) i
        rw [← hy]
        unfold qf_s
        rw [if_pos e]
      · rw [if_neg e]
        refine br_t rfl (nm_r (nI_1 i) (ih2 _ ?_))
        show _ = qf_s (bt o) f s (qf_r (bt o) f s x i) i
        rw [← hy]
        unfold qf_s
        rw [if_neg e]
theorem qf_84 {post : Int32 → Prop} {J25 J35 : Int32 → Int32 → Prop} {x1 x4 kn wi : Int32} {ow c f s r : Nat → Int32} (ob : Nat → Bool) (ho : ∀ p, p < 8 → ow p = qx_pl (ob p)) {y : Int32} {i : Nat} (hi : i < 8) (d e : Bool)
    (h : J35 (if (if ob i = true then d && e else d || e) = true then y ||| ((1 : Int32) <<< (nI i &&& 31)) else y) (nI (i + 1))) :
    wY_canForce_84 post J25 J35 x1 y x4 (nI i) (qx_pl d) (qx_pl e) kn wi ow c f s r := by
  have hc : (nI i).toNatClampNeg = i := nI_clamp (by omega)
  have hin : vp_in (nI i) 8 := vp_in_nI hi (by decide)
  have h119 : J35 (y ||| ((1 : Int32) <<< (nI i &&& 31))) (nI (i + 1)) → wY_canForce_119 post J25 J35 x1 y x4 (nI i) kn wi ow c f s r := by
    intro z
    exact nm_e (nm_r (nI_1 i) z)
  refine ⟨hin, ?_⟩
  rw [hc, ho i hi]
  cases hob : ob i <;> rw [hob] at h <;> cases d <;> cases e
  · exact br_t rfl (br_t rfl (br_t rfl (nm_r (nI_1 i) h)))
  · exact br_t rfl (br_t rfl (br_f (by decide) (h119 h)))
  · exact br_t rfl (br_f (by decide) (h119 h))
  · exact br_t rfl (br_f (by decide) (h119 h))
  · exact br_f (by decide) (br_t rfl (nm_r (nI_1 i) h))
  · exact br_f (by decide) (br_t rfl (nm_r (nI_1 i) h))
  · exact br_f (by decide) (br_f (by decide) (br_t rfl (nm_r (nI_1 i) h)))
  · exact br_f (by decide) (br_f (by decide) (br_f (by decide) (h119 h)))
theorem qf_y {post : Int32 → Prop} {kn wi : Int32} {ow c f s r : Nat → Int32} (ob : Nat → Bool) (ho : ∀ p, p < 8 → ow p = qx_pl (ob p)) {a b : Nat} (hf : qx_Rg f 8) (hs : qx_Rg s 8) (ha : a < 8) (hb : b < 8)
    (h : post (if bt (qf_R ob f s ((1 : Int32) <<< (nI b &&& 31)) 8) a = true then 1 else 0)) : wpY_canForce post (kn, wi, ow, c, f, s, r) (nI a) (nI b) := by
  have hp : ∀ (P : Int32 → Prop) (i : Nat), i < 8 → P 0 → wpY_bad P (kn, wi, ow, c, f, s, r) (nI i) := by
    intro P i hi hP
    exact br_f (nI_pos (by omega)) (br_t (nI_le (b := 7) (by omega) (by decide)) hP)
  unfold wpY_canForce
  dsimp only
  refine hp _ a ha (br_t rfl (hp _ b hb (br_t rfl (nm_e ?_))))
  refine loop_0 (fun n k x => wY_canForce_25 post (nI a) kn wi ow c f s r n x (nI k)) (fun k x => x = qf_R ob f s ((1 : Int32) <<< (nI b &&& 31)) k) 8 ((1 : Int32) <<< (nI b &&& 31)) rfl ?_ ?_
  · intro n x hI
    subst hI
    refine br_t (nI_le (a := 8) (b := 8) (by omega) (by decide)) (br_c (fun z => ?_) (fun z => ?_))
    · rw [if_pos ((qb_bit1 _ (by omega)).mp z)] at h; exact h
    · rw [if_neg (fun y => z ((qb_bit1 _ (by omega)).mpr y))] at h; exact h
  · intro n k x hk hI ih
    refine br_f (nI_ge (b := 8) hk (by decide)) ?_
    refine loop_0 (fun m i y => wY_canForce_35 post (wY_canForce_25 post (nI a) kn wi ow c f s r n) (nI a) (nI k) kn wi ow c f s r m y (nI i)) (fun i y => y = qf_r ob f s x i) 8 x rfl ?_ ?_
    · intro m y hy
      refine br_t (nI_le (a := 8) (b := 8) (by omega) (by decide)) (nm_r (nI_1 k) (ih y ?_))
      rw [hy, hI]
      rfl
    · intro m i y hi hy ih2
      have hci : (nI i).toNatClampNeg = i := nI_clamp (by omega)
      have hin : vp_in (nI i) 8 := vp_in_nI hi (by decide)
      have hfp := hf i hi
      have hsp := hs i hi
      have hJ : wY_canForce_35 post (wY_canForce_25 post (nI a) kn wi ow c f s r n) (nI a) (nI k) kn wi ow c f s r m (if (if ob i = true then bt y (qx_N f i) && bt y (qx_N s i) else bt y (qx_N f i) || bt y (qx_N s i)) = true then y ||| ((1 : Int32) <<< (nI i &&& 31)) else y) (nI (i + 1)) := by
        apply ih2
        show _ = qf_s ob f s (qf_r ob f s x i) i
        rw [← hy]
        rfl
      have h62 : ∀ d : Bool, bt y (qx_N f i) = d → wY_canForce_62 post (wY_canForce_25 post (nI a) kn wi ow c f s r n) (wY_canForce_35 post (wY_canForce_25 post (nI a) kn wi ow c f s r n) (nI a) (nI k) kn wi ow c f s r m) (nI a) y (nI k) (nI i) (qx_pl d) kn wi ow c f s r := by
        intro d hd
        rw [hd] at hJ
        refine ⟨hin, ?_⟩
        rw [hci, hsp.1]
        refine br_c (fun z => ?_) (fun z => ?_)
        · rw [(qb_bit1 _ (by omega)).mp z] at hJ
          exact qf_84 ob ho hi d true hJ
        · have z' : bt y (qx_N s i) = false := by
            cases hb : bt y (qx_N s i)
            · rfl
            · exact absurd ((qb_bit1 _ (by omega)).mpr hb) z
          rw [z'] at hJ
          exact qf_84 ob ho hi d false hJ
      refine br_f (nI_ge (b := 8) hi (by decide)) ⟨hin, ?_⟩
      rw [hci, hfp.1]
      refine br_c (fun z => ?_) (fun z => ?_)
      · exact h62 true ((qb_bit1 _ (by omega)).mp z)
      · refine h62 false ?_
        cases hb : bt y (qx_N f i)
        · rfl
        · exact absurd ((qb_bit1 _ (by omega)).mpr hb) z
end
section
/-- colours and moves are the same functions on both sides; the owners' mask holds the owners' cells; what the reference keeps is right -/
def i_Rel (_ : Nat) (u : SX) (v : SY) : Prop :=
  ∃ (o : Int32) (c f s rx : Nat → Int32) (kn wi : Int32) (ow ry : Nat → Int32), u = (o, c, f, s, rx) ∧ v = (kn, wi, ow, c, f, s, ry)
    ∧ qx_Rg c 6 ∧ qx_Rg f 8 ∧ qx_Rg s 8 ∧ (∀ p, p < 8 → ow p = qx_pl (bt o p)) ∧ qy_K kn wi (qp_W0 (bt o) (qx_N f) (qx_N s) (qx_N c))
theorem qi_mk {k : Nat} {o : Int32} {c f s rx : Nat → Int32} {kn wi : Int32} {ow ry : Nat → Int32} (hc : qx_Rg c 6) (hf : qx_Rg f 8) (hs : qx_Rg s 8) (ho : ∀ p, p < 8 → ow p = qx_pl (bt o p)) (hK : qy_K kn wi (qp_W0 (bt o) (qx_N f) (qx_N s) (qx_N c))) :
    i_Rel k (o, c, f, s, rx) (kn, wi, ow, c, f, s, ry) := ⟨o, c, f, s, rx, kn, wi, ow, ry, rfl, rfl, hc, hf, hs, ho, hK⟩
theorem i_up {k : Nat} {u : SX} {v : SY} (h : i_Rel k u v) : i_Rel (k + 5) u v := h
theorem qi_rng (x : Int32) (B : Nat) (hB : 0 < B) (hB2 : B < 1000) : (∃ j, j < B ∧ x = nI j) ∨ x < 0 ∨ (¬ x < 0 ∧ nI B ≤ x ∧ ¬ x ≤ nI (B - 1)) := by
  by_cases h0 : x < 0
  · exact Or.inr (Or.inl h0)
  · obtain ⟨j, hj, e⟩ := nI_of h0
    by_cases hb : j < B
    · exact Or.inl ⟨j, hb, e⟩
    · refine Or.inr (Or.inr ⟨h0, ?_, ?_⟩)
      · rw [e]; exact nI_le (by omega) (by omega)
      · rw [e]; exact nI_ge (by omega) (by omega)
theorem qi_pos (x : Int32) : (∃ j, j < 8 ∧ x = nI j) ∨ ((∀ P : Int32 → Prop, P 0 → wpX_isPosition P x) ∧ (∀ (P : Int32 → Prop) (v : SY), P 1 → wpY_bad P v x)) := by
  rcases qi_rng x 8 (by decide) (by decide) with h | h | h
  · exact Or.inl h
  · exact Or.inr ⟨fun P hP => br_t h hP, fun P v hP => br_t h hP⟩
  · exact Or.inr ⟨fun P hP => br_f h.1 (br_t h.2.1 hP), fun P v hP => br_f h.1 (br_f h.2.2 hP)⟩
theorem qi_posX {j : Nat} (hj : j < 8) {P : Int32 → Prop} (h : P 1) : wpX_isPosition P (nI j) := br_f (nI_pos (by omega)) (br_f (nI_ge (b := 8) hj (by decide)) h)
theorem qi_posY {j : Nat} (hj : j < 8) {P : Int32 → Prop} {v : SY} (h : P 0) : wpY_bad P v (nI j) := br_f (nI_pos (by omega)) (br_t (nI_le (b := 7) (by omega) (by decide)) h)
theorem qi_col (x : Int32) : (∃ j, j < 6 ∧ x = nI j) ∨ ((∀ P : Int32 → Prop, P 0 → wpX_isColour P x) ∧ (∀ (P : Int32 → Prop) (v : SY), P 1 → wpY_badColour P v x)) := by
  rcases qi_rng x 6 (by decide) (by decide) with h | h | h
  · exact Or.inl h
  · exact Or.inr ⟨fun P hP => br_t h hP, fun P v hP => br_t h hP⟩
  · exact Or.inr ⟨fun P hP => br_f h.1 (br_t h.2.1 hP), fun P v hP => br_f h.1 (br_f h.2.2 hP)⟩
theorem qi_colX {j : Nat} (hj : j < 6) {P : Int32 → Prop} (h : P 1) : wpX_isColour P (nI j) := br_f (nI_pos (by omega)) (br_f (nI_ge (b := 6) hj (by decide)) h)
theorem qi_colY {j : Nat} (hj : j < 6) {P : Int32 → Prop} {v : SY} (h : P 0) : wpY_badColour P v (nI j) := br_f (nI_pos (by omega)) (br_t (nI_le (b := 5) (by omega) (by decide)) h)
theorem qi_ply (x : Int32) : (∃ b, x = qx_pl b) ∨ ((∀ P : Int32 → Prop, P 0 → wpX_isPlayer P x) ∧ (x < 0 ∨ (¬ x < 0 ∧ ¬ x ≤ 1))) := by
  by_cases h0 : x = 0
  · exact Or.inl ⟨false, h0⟩
  · by_cases h1 : x = 1
    · exact Or.inl ⟨true, h1⟩
    · refine Or.inr ⟨fun P hP => br_f h0 (br_f h1 hP), ?_⟩
      rcases qi_rng x 2 (by decide) (by decide) with h | h | h
      · obtain ⟨j, hj, e⟩ := h
        match j, hj with
        | 0, _ => exact absurd e h0
        | 1, _ => exact absurd e h1
      · exact Or.inl h
      · exact Or.inr ⟨h.1, h.2.2⟩
theorem qi_plX (b : Bool) {P : Int32 → Prop} (h : P 1) : wpX_isPlayer P (qx_pl b) := by
  cases b
  · exact br_t rfl h
  · exact br_f (by decide) (br_t rfl h)
theorem qi_Rg {a : Nat → Int32} {B j m : Nat} {x : Int32} (h : qx_Rg a B) (hm : m < B) (hB : B < 1000) (e : x = nI m) : qx_Rg (upd a j x) B := by
  intro p hp
  unfold qx_N
  by_cases ep : p = j
  · subst ep
    rw [qx_us, e, nI_clamp (by omega)]
    exact ⟨rfl, hm⟩
  · rw [qx_un ep]
    exact h p hp
theorem qi_xor (o : Int32) {i : Nat} (hi : i < 8) (p : Nat) (hp : p < 8) : bt (o ^^^ ((1 : Int32) <<< (nI i &&& 31))) p = qy_ot (bt o) i p := by
  rw [b_xor, qb_one i (by omega) p (by omega)]
  unfold qy_ot
  by_cases e : p = i
  · rw [if_pos e, decide_eq_true e]; cases bt o p <;> rfl
  · rw [if_neg e, decide_eq_false e]; cases bt o p <;> rfl
theorem qi_put (o : Int32) {i : Nat} (hi : i < 8) (b : Bool) (p : Nat) (hp : p < 8) : bt ((o &&& (((1 : Int32) <<< (nI i &&& 31)) ^^^ (-1))) ||| (qx_pl b <<< (nI i &&& 31))) p = if p = i then b else bt o p := by
  have hb : bt (qx_pl b <<< (nI i &&& 31)) p = (b && decide (p = i)) := by
    cases b
    · show bt ((0 : Int32) <<< (nI i &&& 31)) p = _
      rw [b_shl i (by omega) 0 (by omega), b_0, Bool.and_false, Bool.false_and]
    · show bt ((1 : Int32) <<< (nI i &&& 31)) p = _
      rw [qb_one i (by omega) p (by omega), Bool.true_and]
  rw [b_or, hb, b_and, b_xor, b_m1 p (by omega), qb_one i (by omega) p (by omega)]
  by_cases e : p = i
  · rw [if_pos e, decide_eq_true e]; cases bt o p <;> cases b <;> rfl
  · rw [if_neg e, decide_eq_false e]; cases bt o p <;> cases b <;> rfl
def qi_id : Nat → Nat → Int32
  | 0 => fun _ => 0
  | i + 1 => upd (qi_id i) i (nI i)
theorem qi_id_v : ∀ i p, p < i → qi_id i p = nI p
  | 0, p, h => absurd h (Nat.not_lt_zero _)
  | i + 1, p, h => by
    unfold qi_id
    by_cases e : p = i
    · subst e; rw [qx_us]
    · rw [qx_un e]; exact qi_id_v i p (by omega)
theorem i_vc0 : wpX_init (fun u => wpY_init (fun v => i_Rel 0 u v)) := by
  have hid : qx_Rg (qi_id 8) 8 := by
    intro p hp
    unfold qx_N
    rw [qi_id_v 8 p hp, nI_clamp (by omega)]
    exact ⟨rfl, hp⟩
  have hz : qx_Rg (fun _ => 0) 6 := by
    intro p hp
    show (0 : Int32) = nI (0 : Int32).toNatClampNeg ∧ (0 : Int32).toNatClampNeg < 6
    decide
  refine loop_0 (σ := (Nat → Int32) × (Nat → Int32)) (fun n i st => wX_init_38 (fun u => wpY_init (fun v => i_Rel 0 u v)) 0 n (nI i) (fun _ => 0) st.1 st.2 (fun _ => 0)) (fun i st => st = (qi_id i, qi_id i)) 8 (fun _ => 0, fun _ => 0) rfl ?_ ?_
  · rintro n st rfl
    refine br_t (nI_le (a := 8) (b := 8) (by omega) (by decide)) ?_
    refine loop_0 (σ := (Nat → Int32) × (Nat → Int32)) (fun n i st => wY_init_46 (fun v => i_Rel 0 (0, (fun _ => 0), qi_id 8, qi_id 8, (fun _ => 0)) v) 0 0 n (nI i) (fun _ => 0) (fun _ => 0) st.1 st.2 (fun _ => 0)) (fun i st => st = (qi_id i, qi_id i)) 8 (fun _ => 0, fun _ => 0) rfl ?_ ?_
    · rintro n st rfl
      exact br_t (nI_le (a := 8) (b := 8) (by omega) (by decide)) (qi_mk hz hid hid (fun p hp => by rw [b_0]; rfl) (Or.inl rfl))
    · rintro n i st hi rfl ih
      have hc : (nI i).toNatClampNeg = i := nI_clamp (by omega)
      have hin : vp_in (nI i) 8 := vp_in_nI hi (by decide)
      refine br_f (nI_ge (b := 8) hi (by decide)) ⟨hin, nm_e ⟨hin, nm_e (nm_r (nI_1 i) ?_)⟩⟩
      rw [hc]
      exact ih (qi_id (i + 1), qi_id (i + 1)) rfl
  · rintro n i st hi rfl ih
    have hc : (nI i).toNatClampNeg = i := nI_clamp (by omega)
    have hin : vp_in (nI i) 8 := vp_in_nI hi (by decide)
    refine br_f (nI_ge (b := 8) hi (by decide)) ⟨hin, nm_e ⟨hin, nm_e (nm_r (nI_1 i) ?_)⟩⟩
    rw [hc]
    exact ih (qi_id (i + 1), qi_id (i + 1)) rfl
theorem i_vc_set {k : Nat} {u : SX} {v : SY} (I : i_Rel k u v) (hk : k + 5 ≤ 2560) (v1 : Int32) (v2 : Int32) (v3 : Int32) (v4 : Int32) : wpX_set (fun r u' => wpY_set (fun r' v' => r' = r ∧ i_Rel (k + 5) u' v') v v1 v2 v3 v4) u v1 v2 v3 v4 := by
  obtain ⟨o, c, f, s, rx, kn, wi, ow, ry, rfl, rfl, hc, hf, hs, ho, hK⟩ := I
  have same : i_Rel (k + 5) (o, c, f, s, rx) (kn, wi, ow, c, f, s, ry) := qi_mk hc hf hs ho hK
  unfold wpX_set wpY_set
  dsimp only
  rcases qi_pos v1 with ⟨j, hj, rfl⟩ | ⟨hX, hY⟩
  · refine qi_posX hj (br_f (by decide) ?_)
    rcases qi_ply v2 with ⟨b, rfl⟩ | ⟨hX, hY⟩
    · refine qi_plX b (br_f (by decide) ?_)
      have hpY : ∀ A B C : Prop, B → (qx_pl b < 0 → A) ∧ (¬ qx_pl b < 0 → ((qx_pl b ≤ 1 → B) ∧ (¬ qx_pl b ≤ 1 → C))) := by
        intro A B C h
        cases b
        · exact br_f (by decide) (br_t (by decide) h)
        · exact br_f (by decide) (br_t (by decide) h)
      rcases qi_col v3 with ⟨m, hm, rfl⟩ | ⟨hX, hY⟩
      · have hcj : (nI j).toNatClampNeg = j := nI_clamp (by omega)
        have hin : vp_in (nI j) 8 := vp_in_nI hj (by decide)
        refine qi_colX hm (br_f (by decide) (nm_e ⟨hin, nm_e ⟨hin, nm_e ⟨hin, nm_e ?_⟩⟩⟩))
        refine qi_posY hj (br_t rfl (hpY _ _ _ (qi_colY hm (br_t rfl ⟨hin, nm_e ⟨hin, nm_e ⟨hin, nm_e ⟨hin, nm_e ?_⟩⟩⟩⟩))))
        rw [hcj]
        obtain ⟨m1, h1, e1⟩ := pk_andE v4 (m := 7) 3 (by decide)
        obtain ⟨m2, h2, e2⟩ := pk_andE (v4 >>> ((3 : Int32) &&& 31)) (m := 7) 3 (by decide)
        refine ⟨rfl, qi_mk (qi_Rg hc hm (by omega) rfl) (qi_Rg hf h1 (by omega) e1) (qi_Rg hs h2 (by omega) e2) (fun p hp => ?_) (Or.inl rfl)⟩
        rw [qi_put o hj b p hp]
        by_cases e : p = j
        · subst e; rw [qx_us, if_pos rfl]
        · rw [qx_un e, if_neg e]; exact ho p hp
      · exact hX _ (br_t rfl (qi_posY hj (br_t rfl (hpY _ _ _ (hY _ _ (br_f (by decide) ⟨rfl, same⟩))))))
    · refine hX _ (br_t rfl (qi_posY hj (br_t rfl ?_)))
      rcases hY with h | h
      · exact br_t h ⟨rfl, same⟩
      · exact br_f h.1 (br_f h.2 ⟨rfl, same⟩)
  · exact hX _ (br_t rfl (hY _ _ (br_f (by decide) ⟨rfl, same⟩)))
theorem i_vc_paint {k : Nat} {u : SX} {v : SY} (I : i_Rel k u v) (hk : k + 5 ≤ 2560) (v1 : Int32) (v2 : Int32) : wpX_paint (fun r u' => wpY_paint (fun r' v' => r' = r ∧ i_Rel (k + 5) u' v') v v1 v2) u v1 v2 := by
  obtain ⟨o, c, f, s, rx, kn, wi, ow, ry, rfl, rfl, hc, hf, hs, ho, hK⟩ := I
  have same : i_Rel (k + 5) (o, c, f, s, rx) (kn, wi, ow, c, f, s, ry) := qi_mk hc hf hs ho hK
  unfold wpX_paint wpY_paint
  dsimp only
  rcases qi_pos v1 with ⟨j, hj, rfl⟩ | ⟨hX, hY⟩
  · refine qi_posX hj (br_f (by decide) ?_)
    rcases qi_col v2 with ⟨m, hm, rfl⟩ | ⟨hX, hY⟩
    · have hin : vp_in (nI j) 8 := vp_in_nI hj (by decide)
      refine qi_colX hm (br_f (by decide) ⟨hin, nm_e ⟨hin, nm_e ?_⟩⟩)
      refine qi_posY hj (br_t rfl (qi_colY hm (br_t rfl ⟨hin, nm_e ⟨hin, nm_e ?_⟩⟩)))
      exact ⟨rfl, qi_mk (qi_Rg hc hm (by omega) rfl) hf hs ho (Or.inl rfl)⟩
    · exact hX _ (br_t rfl (qi_posY hj (br_t rfl (hY _ _ (br_f (by decide) ⟨rfl, same⟩)))))
  · exact hX _ (br_t rfl (hY _ _ (br_f (by decide) ⟨rfl, same⟩)))
theorem i_vc_hand {k : Nat} {u : SX} {v : SY} (I : i_Rel k u v) (hk : k + 5 ≤ 2560) (v1 : Int32) : wpX_hand (fun r u' => wpY_hand (fun r' v' => r' = r ∧ i_Rel (k + 5) u' v') v v1) u v1 := by
  obtain ⟨o, c, f, s, rx, kn, wi, ow, ry, rfl, rfl, hc, hf, hs, ho, hK⟩ := I
  have same : i_Rel (k + 5) (o, c, f, s, rx) (kn, wi, ow, c, f, s, ry) := qi_mk hc hf hs ho hK
  unfold wpX_hand wpY_hand
  dsimp only
  rcases qi_pos v1 with ⟨j, hj, rfl⟩ | ⟨hX, hY⟩
  · have hcj : (nI j).toNatClampNeg = j := nI_clamp (by omega)
    have hin : vp_in (nI j) 8 := vp_in_nI hj (by decide)
    have ho' : ∀ p, p < 8 → upd ow j (1 - ow j) p = qx_pl (bt (o ^^^ ((1 : Int32) <<< (nI j &&& 31))) p) := by
      intro p hp
      rw [qi_xor o hj p hp]
      exact qy_ot_o ho j hj p hp
    refine qi_posX hj (br_f (by decide) (nm_e ?_))
    unfold wpX_bit
    dsimp only
    refine qi_posY hj (br_t rfl ⟨hin, hin, nm_e ⟨hin, ?_⟩⟩)
    rw [hcj]
    refine ⟨?_, qi_mk hc hf hs ho' (Or.inl rfl)⟩
    rw [ho' j hj, qb_bit _ (by omega)]
    rfl
  · exact hX _ (br_t rfl (hY _ _ (br_f (by decide) ⟨rfl, same⟩)))
def qi_mc (c : Nat → Int32) : Nat → Nat → Int32
  | 0 => c
  | i + 1 => upd (qi_mc c i) i (if qi_mc c i i = 5 then 0 else qi_mc c i i + 1)
def qi_mo (ow : Nat → Int32) : Nat → Nat → Int32
  | 0 => ow
  | i + 1 => upd (qi_mo ow i) i (1 - qi_mo ow i i)
theorem qi_mc_R {c : Nat → Int32} (hc : qx_Rg c 6) : ∀ i, i ≤ 8 → qx_Rg (qi_mc c i) 6
  | 0, _ => hc
  | i + 1, hi => by
    have ih := qi_mc_R hc i (by omega)
    have h := ih i (by omega)
    unfold qi_mc
    by_cases e : qi_mc c i i = 5
    · rw [if_pos e]
      exact qi_Rg ih (m := 0) (by omega) (by omega) rfl
    · rw [if_neg e]
      refine qi_Rg ih (m := qx_N (qi_mc c i) i + 1) ?_ (by omega) ?_
      · have h2 := h.2
        by_cases e5 : qx_N (qi_mc c i) i = 5
        · rw [e5] at h
          exact absurd h.1 e
        · omega
      · rw [← nI_1, ← h.1]
theorem qi_mo_v (ow : Nat → Int32) : ∀ i p, qi_mo ow i p = if p < i then 1 - ow p else ow p
  | 0, p => by rw [if_neg (Nat.not_lt_zero _)]; rfl
  | i + 1, p => by
    unfold qi_mo
    by_cases e : p = i
    · subst e
      rw [qx_us, qi_mo_v ow p p, if_neg (Nat.lt_irrefl _), if_pos (by omega)]
    · rw [qx_un e, qi_mo_v ow i p]
      by_cases h : p < i
      · rw [if_pos h, if_pos (by omega)]
      · rw [if_neg h, if_neg (by omega)]
theorem i_vc_mirror {k : Nat} {u : SX} {v : SY} (I : i_Rel k u v) (hk : k + 5 ≤ 2560) : wpX_mirror (fun u' => wpY_mirror (fun v' => i_Rel (k + 5) u' v') v) u := by
  obtain ⟨o, c, f, s, rx, kn, wi, ow, ry, rfl, rfl, hc, hf, hs, ho, hK⟩ := I
  have fin : i_Rel (k + 5) (o ^^^ 255, qi_mc c 8, f, s, rx) (0, wi, qi_mo ow 8, qi_mc c 8, f, s, ry) := by
    refine qi_mk (qi_mc_R hc 8 (Nat.le_refl _)) hf hs (fun p hp => ?_) (Or.inl rfl)
    rw [qi_mo_v, if_pos hp, ho p hp, b_xor, b_255, decide_eq_true hp]
    cases bt o p <;> decide
  refine nm_e ?_
  refine loop_0 (fun n i c' => wX_mirror_14 (fun u' => wpY_mirror (fun v' => i_Rel (k + 5) u' v') (kn, wi, ow, c, f, s, ry)) (o ^^^ 255) n (nI i) c' f s rx) (fun i c' => c' = qi_mc c i) 8 c rfl ?_ ?_
  · rintro n c' rfl
    refine br_t (nI_le (a := 8) (b := 8) (by omega) (by decide)) ?_
    refine loop_0 (σ := (Nat → Int32) × (Nat → Int32)) (fun n i st => wY_mirror_2 (fun v' => i_Rel (k + 5) (o ^^^ 255, qi_mc c 8, f, s, rx) v') kn wi n (nI i) st.1 st.2 f s ry) (fun i st => st = (qi_mo ow i, qi_mc c i)) 8 (ow, c) rfl ?_ ?_
    · rintro n st rfl
      exact br_t (nI_le (a := 8) (b := 8) (by omega) (by decide)) fin
    · rintro n i st hi rfl ih
      have hci : (nI i).toNatClampNeg = i := nI_clamp (by omega)
      have hin : vp_in (nI i) 8 := vp_in_nI hi (by decide)
      refine br_f (nI_ge (b := 8) hi (by decide)) ⟨hin, hin, nm_e ⟨hin, ?_⟩⟩
      rw [hci]
      refine br_c (fun e => ⟨hin, nm_e (nm_r (nI_1 i) (ih (upd (qi_mo ow i) i (1 - qi_mo ow i i), upd (qi_mc c i) i 0) ?_))⟩) (fun e => ⟨hin, hin, nm_e (nm_r (nI_1 i) (ih (upd (qi_mo ow i) i (1 - qi_mo ow i i), upd (qi_mc c i) i (qi_mc c i i + 1)) ?_))⟩)
      · show (_, _) = (upd (qi_mo ow i) i (1 - qi_mo ow i i), upd (qi_mc c i) i (if qi_mc c i i = 5 then 0 else qi_mc c i i + 1))
        rw [if_pos e]
      · show (_, _) = (upd (qi_mo ow i) i (1 - qi_mo ow i i), upd (qi_mc c i) i (if qi_mc c i i = 5 then 0 else qi_mc c i i + 1))
        rw [if_neg e]
  · rintro n i c' hi rfl ih
    have hci : (nI i).toNatClampNeg = i := nI_clamp (by omega)
    have hin : vp_in (nI i) 8 := vp_in_nI hi (by decide)
    refine br_f (nI_ge (b := 8) hi (by decide)) ⟨hin, ?_⟩
    rw [hci]
    refine br_c (fun e => ⟨hin, nm_e (nm_r (nI_1 i) (ih _ ?_))⟩) (fun e => ⟨hin, hin, nm_e (nm_r (nI_1 i) (ih _ ?_))⟩)
    · show _ = upd (qi_mc c i) i (if qi_mc c i i = 5 then 0 else qi_mc c i i + 1)
      rw [if_pos e]
    · show _ = upd (qi_mc c i) i (if qi_mc c i i = 5 then 0 else qi_mc c i i + 1)
      rw [if_neg e]
theorem i_vc_winner {k : Nat} {u : SX} {v : SY} (I : i_Rel k u v) (hk : k + 5 ≤ 2560) (v1 : Int32) : wpX_winner (fun r u' => wpY_winner (fun r' v' => r' = r ∧ i_Rel (k + 5) u' v') v v1) u v1 := by
  obtain ⟨o, c, f, s, rx, kn, wi, ow, ry, rfl, rfl, hc, hf, hs, ho, hK⟩ := I
  have same : i_Rel (k + 5) (o, c, f, s, rx) (kn, wi, ow, c, f, s, ry) := qi_mk hc hf hs ho hK
  unfold wpX_winner wpY_winner
  dsimp only
  rcases qi_pos v1 with ⟨j, hj, rfl⟩ | ⟨hX, hY⟩
  · refine qi_posX hj (br_f (by decide) (qx_w0 hc hf hs (fun x r1 hx => ?_)))
    have hyy : ∀ a : Int32, a = (if bt x j = true then 0 else 1) → wpY_bad (fun r_1 => (r_1 = 0 → wpY_region (fun r_10 u => match u with | (f_known, f_wins, a_owners, a_colours, a_firsts, a_seconds, a_reach) => ((((r_10 >>> (nI j &&& 31)) &&& 1) = 1 → 0 = a ∧ i_Rel (k + 5) (o, c, f, s, r1) (f_known, f_wins, a_owners, a_colours, a_firsts, a_seconds, a_reach)) ∧ (¬ ((r_10 >>> (nI j &&& 31)) &&& 1) = 1 → 1 = a ∧ i_Rel (k + 5) (o, c, f, s, r1) (f_known, f_wins, a_owners, a_colours, a_firsts, a_seconds, a_reach)))) (kn, wi, ow, c, f, s, ry)) ∧ (¬ r_1 = 0 → -1 = a ∧ i_Rel (k + 5) (o, c, f, s, r1) (kn, wi, ow, c, f, s, ry))) (kn, wi, ow, c, f, s, ry) (nI j) := by
      intro a ea
      refine qi_posY hj (br_t rfl (qy_region (bt o) ho hc hf hs hK (fun y kn2 wi2 r2 hy hK2 => ?_)))
      have exy : y = x := qb_Is_eq hx hy (fun _ _ => Iff.rfl)
      subst exy
      refine br_c (fun z => ⟨?_, qi_mk hc hf hs ho hK2⟩) (fun z => ⟨?_, qi_mk hc hf hs ho hK2⟩)
      · rw [ea, if_pos ((qb_bit1 _ (by omega)).mp z)]
      · rw [ea, if_neg (fun w => z ((qb_bit1 _ (by omega)).mpr w))]
    refine qx_con x (by omega) (fun z => br_f (by decide) (hyy 0 ?_)) (fun z => br_t rfl (hyy 1 ?_))
    · rw [if_pos z]
    · rw [z]; rfl
  · exact hX _ (br_t rfl (hY _ _ (br_f (by decide) ⟨rfl, same⟩)))
theorem i_vc_region {k : Nat} {u : SX} {v : SY} (I : i_Rel k u v) (hk : k + 5 ≤ 2560) : wpX_region (fun r u' => wpY_region (fun r' v' => r' = r ∧ i_Rel (k + 5) u' v') v) u := by
  obtain ⟨o, c, f, s, rx, kn, wi, ow, ry, rfl, rfl, hc, hf, hs, ho, hK⟩ := I
  unfold wpX_region
  dsimp only
  refine qx_w0 hc hf hs (fun x r1 hx => ?_)
  exact qy_region (bt o) ho hc hf hs hK (fun y kn2 wi2 r2 hy hK2 => ⟨qb_Is_eq hx hy (fun _ _ => Iff.rfl), qi_mk hc hf hs ho hK2⟩)
theorem i_vc_good {k : Nat} {u : SX} {v : SY} (I : i_Rel k u v) (hk : k + 5 ≤ 2560) (v1 : Int32) (v2 : Int32) : wpX_good (fun r u' => wpY_good (fun r' v' => r' = r ∧ i_Rel (k + 5) u' v') v v1 v2) u v1 v2 := by
  obtain ⟨o, c, f, s, rx, kn, wi, ow, ry, rfl, rfl, hc, hf, hs, ho, hK⟩ := I
  have same : i_Rel (k + 5) (o, c, f, s, rx) (kn, wi, ow, c, f, s, ry) := qi_mk hc hf hs ho hK
  rcases qi_ply v1 with ⟨b, rfl⟩ | ⟨hX, hY⟩
  · refine qx_good b hc hf hs (fun r1 hg => ?_) (fun r1 hg => ?_)
    · exact qy_good (bt o) ho b hc hf hs hK (fun kn2 wi2 r2 hK2 _ => ⟨rfl, qi_mk hc hf hs ho hK2⟩) (fun kn2 wi2 r2 hK2 hn => absurd hg hn)
    · exact qy_good (bt o) ho b hc hf hs hK (fun kn2 wi2 r2 hK2 hn => absurd hn hg) (fun kn2 wi2 r2 hK2 _ => ⟨rfl, qi_mk hc hf hs ho hK2⟩)
  · unfold wpX_good
    dsimp only
    refine hX _ (br_t rfl ?_)
    rcases hY with h | h
    · exact br_t h ⟨rfl, same⟩
    · exact br_f h.1 (br_f h.2 ⟨rfl, same⟩)
theorem i_vc_plans {k : Nat} {u : SX} {v : SY} (I : i_Rel k u v) (hk : k + 5 ≤ 2560) (v1 : Int32) : wpX_plans (fun r u' => wpY_plans (fun r' v' => r' = r ∧ i_Rel (k + 5) u' v') v v1) u v1 := by
  obtain ⟨o, c, f, s, rx, kn, wi, ow, ry, rfl, rfl, hc, hf, hs, ho, hK⟩ := I
  have same : i_Rel (k + 5) (o, c, f, s, rx) (kn, wi, ow, c, f, s, ry) := qi_mk hc hf hs ho hK
  rcases qi_ply v1 with ⟨b, rfl⟩ | ⟨hX, hY⟩
  · exact qx_plans b hc hf hs (fun r1 => qy_plans (bt o) ho b hc hf hs hK (fun kn2 wi2 r2 hK2 => ⟨rfl, qi_mk hc hf hs ho hK2⟩))
  · unfold wpX_plans
    dsimp only
    refine hX _ (br_t rfl ?_)
    rcases hY with h | h
    · exact br_t h ⟨rfl, same⟩
    · exact br_f h.1 (br_f h.2 ⟨rfl, same⟩)
theorem i_vc_firstPlan {k : Nat} {u : SX} {v : SY} (I : i_Rel k u v) (hk : k + 5 ≤ 2560) (v1 : Int32) : wpX_firstPlan (fun r u' => wpY_firstPlan (fun r' v' => r' = r ∧ i_Rel (k + 5) u' v') v v1) u v1 := by
  obtain ⟨o, c, f, s, rx, kn, wi, ow, ry, rfl, rfl, hc, hf, hs, ho, hK⟩ := I
  have same : i_Rel (k + 5) (o, c, f, s, rx) (kn, wi, ow, c, f, s, ry) := qi_mk hc hf hs ho hK
  rcases qi_ply v1 with ⟨b, rfl⟩ | ⟨hX, hY⟩
  · refine qx_first b hc hf hs (fun j r1 hj hg hn => qy_first (bt o) ho b hc hf hs hK (fun j' kn2 wi2 r2 hK2 hj' hg' hn' => ⟨?_, qi_mk hc hf hs ho hK2⟩))
    have e : j' = j := by
      by_cases h1 : j' < j
      · exact absurd hg' (hn j' h1)
      · by_cases h2 : j < j'
        · exact absurd hg (hn' j h2)
        · omega
    rw [e]
  · unfold wpX_firstPlan
    dsimp only
    refine hX _ (br_t rfl ?_)
    rcases hY with h | h
    · exact br_t h ⟨rfl, same⟩
    · exact br_f h.1 (br_f h.2 ⟨rfl, same⟩)
theorem i_vc_canForce {k : Nat} {u : SX} {v : SY} (I : i_Rel k u v) (hk : k + 5 ≤ 2560) (v1 : Int32) (v2 : Int32) : wpX_canForce (fun r => wpY_canForce (fun r' => r' = r ∧ i_Rel (k + 5) u v) v v1 v2) u v1 v2 := by
  have same : i_Rel (k + 5) u v := I
  obtain ⟨o, c, f, s, rx, kn, wi, ow, ry, rfl, rfl, hc, hf, hs, ho, hK⟩ := I
  rcases qi_pos v1 with ⟨a, ha, rfl⟩ | ⟨hX, hY⟩
  · rcases qi_pos v2 with ⟨b, hb, rfl⟩ | ⟨hX, hY⟩
    · exact qf_x hf hs ha hb (qf_y (bt o) ho hf hs ha hb ⟨rfl, same⟩)
    · unfold wpX_canForce wpY_canForce
      dsimp only
      exact qi_posX ha (br_f (by decide) (hX _ (br_t rfl (qi_posY ha (br_t rfl (hY _ _ (br_f (by decide) ⟨rfl, same⟩)))))))
  · unfold wpX_canForce wpY_canForce
    dsimp only
    exact hX _ (br_t rfl (hY _ _ (br_f (by decide) ⟨rfl, same⟩)))
theorem qi_cn {P P' : Nat → Prop} : ∀ n, (∀ k, k < n → (P k ↔ P' k)) → qx_cn P n = qx_cn P' n
  | 0, _ => rfl
  | n + 1, h => by
    have ih := qi_cn n (fun k hk => h k (by omega))
    have hn := h n (by omega)
    by_cases c : P n
    · rw [qx_cn_t c, qx_cn_t (hn.mp c), ih]
    · rw [qx_cn_f c, qx_cn_f (fun z => c (hn.mpr z)), ih]
theorem i_vc_contested {k : Nat} {u : SX} {v : SY} (I : i_Rel k u v) (hk : k + 5 ≤ 2560) : wpX_contested (fun r u' => wpY_contested (fun r' v' => r' = r ∧ i_Rel (k + 5) u' v') v) u := by
  obtain ⟨o, c, f, s, rx, kn, wi, ow, ry, rfl, rfl, hc, hf, hs, ho, hK⟩ := I
  refine qx_contested hc hf hs (fun r1 => qy_contested (bt o) ho hc hf hs hK (fun kn2 wi2 r2 hK2 => ⟨?_, qi_mk hc hf hs ho hK2⟩))
  refine qi_cn 8 (fun p hp => not_congr ?_)
  constructor
  · intro z q hq
    rw [z q hq]
    exact (qp_W0_c (qi_xor o hp) q).symm
  · intro z q hq
    rw [z q hq]
    exact qp_W0_c (qi_xor o hp) q
end
