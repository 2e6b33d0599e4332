/-! fractions in lowest terms: Euclid on both sides -/
theorem lN_o (n : Nat) : lN n = o64 (n : Int) := rfl
theorem cmp0 {b : Nat} (hb : b < 9223372036854775808) : lg_cmp (lN b) 0 = 0 ↔ b = 0 := by
  rw [lg_cmp_eq]
  exact pk_lEQ (b := 0) hb (by decide)
theorem common_L : ∀ (n a b : Nat), b < n → a < 9223372036854775808 → b < 9223372036854775808 → L_X3_common_6 n (lN a) (lN b) = lN (Nat.gcd a b) := by
  intro n
  induction n with
  | zero => intro a b h; omega
  | succ n ih =>
    intro a b h ha hb
    by_cases h0 : b = 0
    · subst h0
      have e : L_X3_common_6 (n + 1) (lN a) (lN 0) = lN a := if_pos ((cmp0 hb).mpr rfl)
      rw [e, Nat.gcd_zero_right]
    · have e : L_X3_common_6 (n + 1) (lN a) (lN b) = L_X3_common_6 n (lN b) (lN a - lN a / lN b * lN b) := if_neg (fun h => h0 ((cmp0 hb).mp h))
      have hm := Nat.mod_lt a (show 0 < b by omega)
      rw [e, pk_lRem ha (by omega) hb, ih b (a % b) (by omega) hb (by omega), Nat.gcd_comm b, ← Nat.gcd_rec, Nat.gcd_comm]
theorem gd_end {f a : Nat} {i : Int32} : L_X2_greatestDivisor_9 (f + 1) (lN a) (lN 0) i = lN a := by
  by_cases h : (100 : Int32) ≤ i
  · exact if_pos h
  · exact (if_neg h).trans (if_pos (by decide))
theorem gd_step {f a b k : Nat} (hk : k < 100) (h0 : ¬ b = 0) (ha : a < 9223372036854775808) (hb : b < 9223372036854775808) : L_X2_greatestDivisor_9 (f + 1) (lN a) (lN b) (nI k) = L_X2_greatestDivisor_9 f (lN b) (lN (a % b)) (nI (k + 1)) := by
  have hn : ¬ (100 : Int32) ≤ nI k := nI_ge (a := k) (b := 100) (by omega) (by decide)
  have e : L_X2_greatestDivisor_9 (f + 1) (lN a) (lN b) (nI k) = L_X2_greatestDivisor_9 f (lN b) (lN a - lN a / lN b * lN b) (nI k + 1) := (if_neg hn).trans (if_neg (fun h => h0 ((cmp0 hb).mp h)))
  rw [e, pk_lRem ha (by omega) hb, nI_1]
theorem gcd_mod (a b : Nat) : Nat.gcd b (a % b) = Nat.gcd a b := by
  rw [Nat.gcd_comm b, ← Nat.gcd_rec, Nat.gcd_comm]
theorem half_mod {b r : Nat} (hr : 0 < r) (hb : r < b) : 2 * (b % r) < b := by
  have h1 := Nat.mod_lt b hr
  have h2 := Nat.div_add_mod b r
  have h3 : 1 ≤ b / r := (Nat.one_le_div_iff hr).mpr (by omega)
  have h4 : r * 1 ≤ r * (b / r) := Nat.mul_le_mul_left r h3
  omega
theorem gd_L : ∀ (j f k a b : Nat), b < 2 ^ j → k + 2 * j ≤ 100 → f + k = 101 → a < 9223372036854775808 → b < 9223372036854775808 → L_X2_greatestDivisor_9 f (lN a) (lN b) (nI k) = lN (Nat.gcd a b) := by
  intro j
  induction j with
  | zero =>
    intro f k a b h1 h2 h3 ha hb
    have hb0 : b = 0 := by omega
    subst hb0
    obtain ⟨f, rfl⟩ : ∃ g, f = g + 1 := ⟨f - 1, by omega⟩
    rw [gd_end, Nat.gcd_zero_right]
  | succ j ih =>
    intro f k a b h1 h2 h3 ha hb
    obtain ⟨f, rfl⟩ : ∃ g, f = g + 1 + 1 := ⟨f - 2, by omega⟩
    by_cases h0 : b = 0
    · subst h0
      rw [gd_end, Nat.gcd_zero_right]
    · rw [gd_step (by omega) h0 ha hb]
      have hm := Nat.mod_lt a (show 0 < b by omega)
      by_cases hr : a % b = 0
      · rw [hr, gd_end, ← gcd_mod a b, hr, Nat.gcd_zero_right]
      · rw [gd_step (by omega) hr hb (by omega)]
        have hh := half_mod (b := b) (r := a % b) (by omega) hm
        have hm2 := Nat.mod_lt b (show 0 < a % b by omega)
        rw [Nat.pow_succ] at h1
        rw [ih f (k + 1 + 1) (a % b) (b % (a % b)) (by omega) (by omega) (by omega) (by omega) (by omega), gcd_mod, gcd_mod]
theorem gd_eq {a b : Nat} (ha : a < 9223372036854775808) (hb : b < 4398046511104) : F_X2_greatestDivisor (lN a) (lN b) = lN (Nat.gcd a b) := gd_L 42 101 0 a b hb (by decide) rfl ha (by omega)
theorem com_eq {a b : Nat} (ha : a < 9223372036854775808) (hb : b < 9223372036854775808) : F_X3_common (lN a) (lN b) = lN (Nat.gcd a b) := by
  unfold F_X3_common
  rw [pk_lT hb]
  exact common_L _ a b (by omega) ha hb
theorem abs_o {u : Int} (h : SM u) : (if 0 < o64 u then o64 u else -o64 u) = lN u.natAbs := by
  have hi := o_int h
  by_cases h0 : 0 < u
  · rw [if_pos (by rw [Int64.lt_iff_toInt_lt, hi]; exact h0), lN_o]
    congr 1
    omega
  · rw [if_neg (by rw [Int64.lt_iff_toInt_lt, hi]; exact h0), lN_o, ← Int64.ofInt_neg]
    congr 1
    omega
theorem plain_o {u : Int} (h : SM u) : F_X3_plain (o64 u) = lN u.natAbs := by
  have hi := o_int h
  unfold F_X3_plain
  have e : (0 ≤ lg_cmp (o64 u) 0) ↔ 0 ≤ u := by
    rw [lg_cmp_ge, Int64.le_iff_toInt_le, hi]
    rfl
  by_cases h0 : 0 ≤ u
  · rw [if_pos (e.mpr h0), lN_o]
    congr 1
    omega
  · rw [if_neg (fun h => h0 (e.mp h)), lN_o, ← Int64.ofInt_neg]
    congr 1
    omega
theorem div_o {u v : Int} (hu : SM u) (hv : SM v) : o64 u / o64 v = o64 (u.tdiv v) := by
  have hu : u.natAbs ≤ 4611686018427387904 := hu
  have hv : v.natAbs ≤ 4611686018427387904 := hv
  have m1 : Int64.minValue.toInt = -9223372036854775808 := by decide
  have m2 : Int64.maxValue.toInt = 9223372036854775807 := by decide
  exact (Int64.ofInt_tdiv (by omega) (by omega) (by omega) (by omega)).symm
/-- a fraction of the class is the reference's, both numbers times K -/
theorem low_told {K u v : Int} (hK : 0 < K) (hv : 0 < v) (h1 : SM (K * u)) (h2 : K * v < 4398046511104) (hu : SM u) (p : Int32) : F_X2_partOfLowest (o64 (K * u)) (o64 (K * v)) p = F_X3_told (o64 u) (o64 v) p := by
  have hKv : 0 < K * v := Int.mul_pos hK hv
  have hvle : v ≤ K * v := by
    have := Int.mul_le_mul_of_nonneg_right (show 1 ≤ K by omega) (show 0 ≤ v by omega)
    omega
  have e1 : o64 (K * v) = lN (K * v).toNat := by rw [lN_o]; congr 1; omega
  have e2 : o64 v = lN v.toNat := by rw [lN_o]; congr 1; omega
  have b1 : (K * u).natAbs ≤ 4611686018427387904 := h1
  have b2 : u.natAbs ≤ 4611686018427387904 := hu
  have g1 : F_X2_greatestDivisor (if 0 < o64 (K * u) then o64 (K * u) else -o64 (K * u)) (o64 (K * v)) = lN (Nat.gcd (K * u).natAbs (K * v).toNat) := by
    rw [abs_o h1, e1, gd_eq (by omega) (by omega)]
  have g2 : F_X3_common (o64 v) (F_X3_plain (o64 u)) = lN (Nat.gcd v.toNat u.natAbs) := by
    rw [plain_o hu, e2, com_eq (by omega) (by omega)]
  have eg : Nat.gcd (K * u).natAbs (K * v).toNat = K.toNat * Nat.gcd v.toNat u.natAbs := by
    have a1 : (K * u).natAbs = K.toNat * u.natAbs := by rw [Int.natAbs_mul]; congr 1; omega
    have a2 : (K * v).toNat = K.toNat * v.toNat := by rw [Int.toNat_mul (by omega) (by omega)]
    rw [a1, a2, Nat.gcd_mul_left, Nat.gcd_comm]
  generalize hG : Nat.gcd v.toNat u.natAbs = G at g2 eg
  have hGpos : 0 < G := by rw [← hG]; exact Nat.gcd_pos_of_pos_left _ (by omega)
  have hGle : G ≤ v.toNat := by rw [← hG]; exact Nat.gcd_le_left _ (by omega)
  have hKG : K.toNat * G ≤ (K * v).toNat := by
    rw [Int.toNat_mul (by omega) (by omega)]
    exact Nat.mul_le_mul_left _ hGle
  have hKGpos : 0 < K.toNat * G := Nat.mul_pos (by omega) hGpos
  rw [eg] at g1
  unfold F_X2_partOfLowest F_X3_told
  rw [g1, g2]
  have hpos : 0 < lg_cmp (lN (K.toNat * G)) 0 := by
    rw [lg_cmp_gt]
    exact (pk_lLT (a := 0) (by decide) (by omega)).mpr hKGpos
  rw [if_pos hpos]
  have eKG : lN (K.toNat * G) = o64 (K * (G : Int)) := by
    rw [lN_o]
    congr 1
    rw [Int.natCast_mul]
    congr 1
    omega
  have sG : SM (G : Int) := by show (G : Int).natAbs ≤ 4611686018427387904; omega
  have sKG : SM (K * (G : Int)) := by
    show (K * (G : Int)).natAbs ≤ 4611686018427387904
    have : K * (G : Int) = ((K.toNat * G : Nat) : Int) := by rw [Int.natCast_mul]; congr 1; omega
    omega
  have sv : SM v := by show v.natAbs ≤ 4611686018427387904; omega
  have sKv : SM (K * v) := by show (K * v).natAbs ≤ 4611686018427387904; omega
  by_cases hp : p = 0
  · rw [if_pos hp, if_pos hp, eKG, lN_o G, div_o h1 sKG, div_o hu sG, Int.mul_tdiv_mul_of_pos _ _ hK]
  · rw [if_neg hp, if_neg hp, eKG, lN_o G, div_o sKv sKG, div_o sv sG, Int.mul_tdiv_mul_of_pos _ _ hK]
