/-! Long.bitCount, of six bytes of six bits (pure). Rows wb_.. began as kit/laws/BITS.to-paste.lean.txt -/
theorem wc_tb (n : Nat) : (lN n).toBitVec = BitVec.ofNat 64 n := rfl
theorem wc_inj {a b : Int64} (h : a.toBitVec = b.toBitVec) : a = b := Int64.toBitVec_inj.mp h
theorem wc_tn {n : Nat} (h : n < 2 ^ 64) : (lN n).toBitVec.toNat = n := by rw [wc_tb, BitVec.toNat_ofNat, Nat.mod_eq_of_lt h]
theorem wc_of (x : Int64) : ∃ n, n < 2 ^ 64 ∧ x = lN n := ⟨x.toBitVec.toNat, x.toBitVec.isLt, wc_inj (by rw [wc_tb]; simp)⟩
theorem wc_shr {n k : Nat} (hn : n < 2 ^ 64) (hk : k < 64) : usL (lN n) (nI k) = lN (n / 2 ^ k) := by
  unfold usL
  apply wc_inj
  apply BitVec.eq_of_toNat_eq
  show ((lN n).toUInt64 >>> ((nI k).toInt64.toUInt64 &&& Int64.toUInt64 63)).toNat = (BitVec.ofNat 64 _).toNat
  have h2 : (lN n).toUInt64.toNat = n := wc_tn hn
  rw [UInt64.toNat_shiftRight, cu_nI k hk, h2, Nat.mod_eq_of_lt hk, Nat.shiftRight_eq_div_pow, BitVec.toNat_ofNat, Nat.mod_eq_of_lt (Nat.lt_of_le_of_lt (Nat.div_le_self _ _) hn)]
theorem wc_and {a b : Nat} (ha : a < 2 ^ 64) (hb : b < 2 ^ 64) : lN a &&& lN b = lN (a &&& b) := by
  apply wc_inj
  rw [Int64.toBitVec_and, wc_tb, wc_tb, wc_tb]
  apply BitVec.eq_of_toNat_eq
  rw [BitVec.toNat_and, BitVec.toNat_ofNat, BitVec.toNat_ofNat, BitVec.toNat_ofNat, Nat.mod_eq_of_lt ha, Nat.mod_eq_of_lt hb, Nat.mod_eq_of_lt (Nat.and_lt_two_pow _ hb)]
/-- eight bytes -/
def vB (b : Nat → Nat) : Nat → Nat
  | 0 => 0
  | n + 1 => b 0 + 256 * vB (fun i => b (i + 1)) n
theorem vB_lt : ∀ (n : Nat) (b : Nat → Nat), (∀ i, i < n → b i < 256) → vB b n < 256 ^ n
  | 0, _, _ => by show 0 < 256 ^ 0; decide
  | n + 1, b, h => by
    have ih := vB_lt n (fun i => b (i + 1)) (fun i hi => h (i + 1) (by omega))
    have h0 := h 0 (by omega)
    show b 0 + 256 * vB (fun i => b (i + 1)) n < 256 ^ (n + 1)
    rw [Nat.pow_succ]
    omega
theorem and_split (A c M : Nat) (hc : c < 256) : A &&& (c + 256 * M) = (A % 256 &&& c) + 256 * (A / 256 &&& M) := by
  have h1 : A % 256 &&& c < 2 ^ 8 := Nat.and_lt_two_pow _ hc
  apply Nat.eq_of_testBit_eq
  intro j
  rw [Nat.add_comm c, Nat.add_comm (A % 256 &&& c), show (256 : Nat) = 2 ^ 8 from rfl, Nat.testBit_and, Nat.testBit_two_pow_mul_add M (show c < 2 ^ 8 from hc), Nat.testBit_two_pow_mul_add _ h1]
  by_cases q : j < 8
  · rw [if_pos q, if_pos q, Nat.testBit_and, show A % 256 = A % 2 ^ 8 from rfl, Nat.testBit_mod_two_pow, decide_eq_true q, Bool.true_and]
  · rw [if_neg q, if_neg q, Nat.testBit_and, Nat.testBit_div_two_pow, show j - 8 + 8 = j by omega]
/-- shifted by k bits, and a mask that keeps each byte's own -/
theorem sh_and {k d c : Nat} (hd : 2 ^ k = d) (hc : c < 256) (hk : ∀ r, r < 256 → ∀ t, t < d → ((r / d + 256 / d * t) % 256 &&& c) = r / d &&& c) (hdd : 256 / d * d = 256) (hd0 : 0 < d) : ∀ (n : Nat) (b : Nat → Nat), (∀ i, i < n → b i < 256) → (vB b n / d) &&& vB (fun _ => c) n = vB (fun i => b i / d &&& c) n
  | 0, _, _ => by show 0 / d &&& 0 = 0; rw [Nat.and_zero]
  | n + 1, b, h => by
    have ih := sh_and hd hc hk hdd hd0 n (fun i => b (i + 1)) (fun i hi => h (i + 1) (by omega))
    have h0 := h 0 (by omega)
    show ((b 0 + 256 * vB (fun i => b (i + 1)) n) / d) &&& (c + 256 * vB (fun _ => c) n) = (b 0 / d &&& c) + 256 * vB (fun i => b (i + 1) / d &&& c) n
    rw [← ih]
    generalize vB (fun i => b (i + 1)) n = q at *
    have e1 : (b 0 + 256 * q) / d = b 0 / d + 256 / d * q := by
      conv => lhs; rw [← hdd, Nat.mul_comm (256 / d) d, Nat.mul_assoc]
      exact Nat.add_mul_div_left _ _ hd0
    have hlt : b 0 / d < 256 / d := by
      apply Nat.div_lt_of_lt_mul
      rw [Nat.mul_comm, hdd]
      exact h0
    have e2 : (b 0 / d + 256 / d * q) / 256 = q / d := by
      have hp : 0 < 256 / d := Nat.lt_of_le_of_lt (Nat.zero_le _) hlt
      have : (b 0 / d + 256 / d * q) / (256 / d * d) = q / d := by
        rw [← Nat.div_div_eq_div_mul, Nat.add_mul_div_left _ _ hp, Nat.div_eq_of_lt hlt, Nat.zero_add]
      rw [hdd] at this
      exact this
    have e3 : (b 0 / d + 256 / d * q) % 256 = (b 0 / d + 256 / d * (q % d)) % 256 := by
      conv => lhs; rw [← Nat.div_add_mod q d, Nat.mul_add, ← Nat.mul_assoc, hdd]
      rw [Nat.add_left_comm, Nat.mul_add_mod]
    rw [e1, and_split _ _ _ hc, e2, e3, hk (b 0) h0 (q % d) (Nat.mod_lt _ hd0)]
theorem and_all {c : Nat} (hc : c < 256) : ∀ (n : Nat) (b : Nat → Nat), (∀ i, i < n → b i < 256) → vB b n &&& vB (fun _ => c) n = vB (fun i => b i &&& c) n
  | 0, _, _ => by show 0 &&& 0 = 0; rfl
  | n + 1, b, h => by
    have ih := and_all hc n (fun i => b (i + 1)) (fun i hi => h (i + 1) (by omega))
    have h0 := h 0 (by omega)
    show (b 0 + 256 * vB (fun i => b (i + 1)) n) &&& (c + 256 * vB (fun _ => c) n) = (b 0 &&& c) + 256 * vB (fun i => b (i + 1) &&& c) n
    rw [← ih, and_split _ _ _ hc, Nat.add_mul_mod_self_left, Nat.mod_eq_of_lt h0, Nat.add_mul_div_left _ _ (by decide), Nat.div_eq_of_lt h0, Nat.zero_add]
theorem vB_sub : ∀ (n : Nat) (b c : Nat → Nat), (∀ i, i < n → c i ≤ b i) → vB b n - vB c n = vB (fun i => b i - c i) n ∧ vB c n ≤ vB b n
  | 0, _, _, _ => ⟨rfl, Nat.le_refl _⟩
  | n + 1, b, c, h => by
    obtain ⟨i1, i2⟩ := vB_sub n (fun i => b (i + 1)) (fun i => c (i + 1)) (fun i hi => h (i + 1) (by omega))
    have h0 := h 0 (by omega)
    show b 0 + 256 * vB (fun i => b (i + 1)) n - (c 0 + 256 * vB (fun i => c (i + 1)) n) = b 0 - c 0 + 256 * vB (fun i => b (i + 1) - c (i + 1)) n ∧ c 0 + 256 * vB (fun i => c (i + 1)) n ≤ b 0 + 256 * vB (fun i => b (i + 1)) n
    rw [← i1]
    omega
theorem vB_add : ∀ (n : Nat) (b c : Nat → Nat), vB b n + vB c n = vB (fun i => b i + c i) n
  | 0, _, _ => rfl
  | n + 1, b, c => by
    have ih := vB_add n (fun i => b (i + 1)) (fun i => c (i + 1))
    show b 0 + 256 * vB (fun i => b (i + 1)) n + (c 0 + 256 * vB (fun i => c (i + 1)) n) = b 0 + c 0 + 256 * vB (fun i => b (i + 1) + c (i + 1)) n
    rw [← ih]
    omega
theorem vB_cg {b c : Nat → Nat} : ∀ {n : Nat}, (∀ i, i < n → b i = c i) → vB b n = vB c n
  | 0, _ => rfl
  | n + 1, h => by
    show b 0 + 256 * vB (fun i => b (i + 1)) n = c 0 + 256 * vB (fun i => c (i + 1)) n
    rw [h 0 (by omega), vB_cg (b := fun i => b (i + 1)) (c := fun i => c (i + 1)) (fun i hi => h (i + 1) (by omega))]
/-- the third step: nibbles together -/
theorem nib : ∀ (n : Nat) (b : Nat → Nat), (∀ i, i < n → b i % 16 ≤ 4 ∧ b i / 16 ≤ 4) → (vB b n + vB b n / 16) &&& vB (fun _ => 15) n = vB (fun i => b i % 16 + b i / 16) n
  | 0, _, _ => by show (0 + 0 / 16) &&& 0 = 0; rfl
  | n + 1, b, h => by
    have ih := nib n (fun i => b (i + 1)) (fun i hi => h (i + 1) (by omega))
    have h0 := h 0 (by omega)
    have hq : vB (fun i => b (i + 1)) n % 16 ≤ 4 := by
      match n with
      | 0 => exact Nat.zero_le _
      | n + 1 =>
        show (b 1 + 256 * vB (fun i => b (i + 1 + 1)) n) % 16 ≤ 4
        have := (h 1 (by omega)).1
        omega
    show (b 0 + 256 * vB (fun i => b (i + 1)) n + (b 0 + 256 * vB (fun i => b (i + 1)) n) / 16) &&& (15 + 256 * vB (fun _ => 15) n) = b 0 % 16 + b 0 / 16 + 256 * vB (fun i => b (i + 1) % 16 + b (i + 1) / 16) n
    rw [← ih, and_split _ _ _ (by decide)]
    generalize vB (fun i => b (i + 1)) n = q at *
    have e1 : (b 0 + 256 * q + (b 0 + 256 * q) / 16) / 256 = q + q / 16 := by omega
    have e2 : ((b 0 + 256 * q + (b 0 + 256 * q) / 16) % 256 &&& 15) = b 0 % 16 + b 0 / 16 := by
      rw [show (15 : Nat) = 2 ^ 4 - 1 from rfl, Nat.and_two_pow_sub_one_eq_mod]
      omega
    rw [e1, e2]
theorem pc_byte : ∀ r, r < 64 → r / 2 &&& 85 ≤ r ∧ r - (r / 2 &&& 85) < 256 ∧ (r - (r / 2 &&& 85) &&& 51) + ((r - (r / 2 &&& 85)) / 4 &&& 51) < 256 ∧ ((r - (r / 2 &&& 85) &&& 51) + ((r - (r / 2 &&& 85)) / 4 &&& 51)) % 16 ≤ 4 ∧ ((r - (r / 2 &&& 85) &&& 51) + ((r - (r / 2 &&& 85)) / 4 &&& 51)) / 16 ≤ 4 ∧ ((r - (r / 2 &&& 85) &&& 51) + ((r - (r / 2 &&& 85)) / 4 &&& 51)) % 16 + ((r - (r / 2 &&& 85) &&& 51) + ((r - (r / 2 &&& 85)) / 4 &&& 51)) / 16 = pcN r := by decide +kernel
theorem hk2 : ∀ r, r < 256 → ∀ t, t < 2 → ((r / 2 + 256 / 2 * t) % 256 &&& 85) = r / 2 &&& 85 := by decide +kernel
theorem hk4 : ∀ r, r < 256 → ∀ t, t < 4 → ((r / 4 + 256 / 4 * t) % 256 &&& 51) = r / 4 &&& 51 := by decide +kernel
theorem bc_sum {w : Nat → Nat} (h : ∀ i, i < 8 → w i ≤ 6) (h6 : w 6 = 0) (h7 : w 7 = 0) : ((vB w 8 + vB w 8 / 256 + (vB w 8 + vB w 8 / 256) / 65536) + ((vB w 8 + vB w 8 / 256 + (vB w 8 + vB w 8 / 256) / 65536)) / 4294967296) % 128 = w 0 + w 1 + w 2 + w 3 + w 4 + w 5 ∧ vB w 8 < 2 ^ 48 := by
  have e : vB w 8 = w 0 + 256 * (w 1 + 256 * (w 2 + 256 * (w 3 + 256 * (w 4 + 256 * w 5)))) := by
    show w 0 + 256 * (w 1 + 256 * (w 2 + 256 * (w 3 + 256 * (w 4 + 256 * (w 5 + 256 * (w 6 + 256 * (w 7 + 256 * 0))))))) = _
    rw [h6, h7]
    omega
  have a0 := h 0 (by omega)
  have a1 := h 1 (by omega)
  have a2 := h 2 (by omega)
  have a3 := h 3 (by omega)
  have a4 := h 4 (by omega)
  have a5 := h 5 (by omega)
  rw [e]
  generalize w 0 = w0 at *
  generalize w 1 = w1 at *
  generalize w 2 = w2 at *
  generalize w 3 = w3 at *
  generalize w 4 = w4 at *
  generalize w 5 = w5 at *
  refine ⟨?_, by omega⟩
  have d1 : (w0 + 256 * (w1 + 256 * (w2 + 256 * (w3 + 256 * (w4 + 256 * w5))))) / 256 = w1 + 256 * (w2 + 256 * (w3 + 256 * (w4 + 256 * w5))) := by omega
  have d2 : w0 + 256 * (w1 + 256 * (w2 + 256 * (w3 + 256 * (w4 + 256 * w5)))) + (w1 + 256 * (w2 + 256 * (w3 + 256 * (w4 + 256 * w5)))) = (w0 + w1) + 256 * ((w1 + w2) + 256 * ((w2 + w3) + 256 * ((w3 + w4) + 256 * ((w4 + w5) + 256 * w5)))) := by omega
  have d3 : ((w0 + w1) + 256 * ((w1 + w2) + 256 * ((w2 + w3) + 256 * ((w3 + w4) + 256 * ((w4 + w5) + 256 * w5))))) / 65536 = (w2 + w3) + 256 * ((w3 + w4) + 256 * ((w4 + w5) + 256 * w5)) := by omega
  have d4 : (w0 + w1) + 256 * ((w1 + w2) + 256 * ((w2 + w3) + 256 * ((w3 + w4) + 256 * ((w4 + w5) + 256 * w5)))) + ((w2 + w3) + 256 * ((w3 + w4) + 256 * ((w4 + w5) + 256 * w5))) = (w0 + w1 + w2 + w3) + 256 * ((w1 + w2 + w3 + w4) + 256 * ((w2 + w3 + w4 + w5) + 256 * ((w3 + w4 + w5) + 256 * ((w4 + w5) + 256 * w5)))) := by omega
  have d5 : ((w0 + w1 + w2 + w3) + 256 * ((w1 + w2 + w3 + w4) + 256 * ((w2 + w3 + w4 + w5) + 256 * ((w3 + w4 + w5) + 256 * ((w4 + w5) + 256 * w5))))) / 4294967296 = (w4 + w5) + 256 * w5 := by omega
  rw [d1, d2, d3, d4, d5]
  omega
theorem bc_val {r : Nat → Nat} (hr : ∀ i, i < 8 → r i < 64) (h6 : r 6 = 0) (h7 : r 7 = 0) : bcL (lN (vB r 8)) = nI (pcN (r 0) + pcN (r 1) + pcN (r 2) + pcN (r 3) + pcN (r 4) + pcN (r 5)) := by
  have p64 : (2 : Nat) ^ 64 = 256 ^ 8 := by decide
  have lt8 : ∀ b : Nat → Nat, (∀ i, i < 8 → b i < 256) → vB b 8 < 2 ^ 64 := fun b h => by rw [p64]; exact vB_lt 8 b h
  have hr2 : ∀ i, i < 8 → r i < 256 := fun i hi => by have := hr i hi; omega
  have m85 : (6148914691236517205 : Int64) = lN (vB (fun _ => 85) 8) := by decide
  have m51 : (3689348814741910323 : Int64) = lN (vB (fun _ => 51) 8) := by decide
  have m15 : (1085102592571150095 : Int64) = lN (vB (fun _ => 15) 8) := by decide
  have c : ∀ k, k < 256 → vB (fun _ => k) 8 < 2 ^ 64 := fun k hk => lt8 _ (fun _ _ => hk)
  have dv : ∀ n k : Nat, n < 2 ^ 64 → n / k < 2 ^ 64 := fun n k h => Nat.lt_of_le_of_lt (Nat.div_le_self _ _) h
  have s0 : bcL0 (lN (vB r 8)) = lN (vB (fun i => r i - (r i / 2 &&& 85)) 8) := by
    have h := vB_sub 8 r (fun i => r i / 2 &&& 85) (fun i hi => (pc_byte _ (hr i hi)).1)
    unfold bcL0
    rw [show usL (lN (vB r 8)) 1 = lN (vB r 8 / 2 ^ 1) from wc_shr (k := 1) (lt8 r hr2) (by decide), m85, wc_and (dv _ _ (lt8 r hr2)) (c 85 (by decide)), show (2 : Nat) ^ 1 = 2 from rfl, sh_and (k := 1) rfl (by decide) hk2 rfl (by decide) 8 r hr2, lN_sub h.2, h.1]
  have b0 : ∀ i, i < 8 → r i - (r i / 2 &&& 85) < 256 := fun i hi => (pc_byte _ (hr i hi)).2.1
  have s1 : bcL1 (bcL0 (lN (vB r 8))) = lN (vB (fun i => (r i - (r i / 2 &&& 85) &&& 51) + ((r i - (r i / 2 &&& 85)) / 4 &&& 51)) 8) := by
    rw [s0]
    unfold bcL1
    rw [show usL (lN (vB (fun i => r i - (r i / 2 &&& 85)) 8)) 2 = lN (vB (fun i => r i - (r i / 2 &&& 85)) 8 / 2 ^ 2) from wc_shr (k := 2) (lt8 _ b0) (by decide), m51, wc_and (lt8 _ b0) (c 51 (by decide)), wc_and (dv _ _ (lt8 _ b0)) (c 51 (by decide)), show (2 : Nat) ^ 2 = 4 from rfl, sh_and (k := 2) rfl (by decide) hk4 rfl (by decide) 8 _ b0, and_all (by decide) 8 _ b0, lN_add, vB_add]
  have b1 : ∀ i, i < 8 → (r i - (r i / 2 &&& 85) &&& 51) + ((r i - (r i / 2 &&& 85)) / 4 &&& 51) < 256 := fun i hi => (pc_byte _ (hr i hi)).2.2.1
  have s2 : bcL2 (bcL1 (bcL0 (lN (vB r 8)))) = lN (vB (fun i => pcN (r i)) 8) := by
    rw [s1]
    unfold bcL2
    have hlt : vB (fun i => (r i - (r i / 2 &&& 85) &&& 51) + ((r i - (r i / 2 &&& 85)) / 4 &&& 51)) 8 + vB (fun i => (r i - (r i / 2 &&& 85) &&& 51) + ((r i - (r i / 2 &&& 85)) / 4 &&& 51)) 8 / 16 < 2 ^ 64 := by
      have e : vB (fun i => (r i - (r i / 2 &&& 85) &&& 51) + ((r i - (r i / 2 &&& 85)) / 4 &&& 51)) 8 ≤ vB (fun _ => 68) 8 := by
        have := (vB_sub 8 (fun _ => 68) (fun i => (r i - (r i / 2 &&& 85) &&& 51) + ((r i - (r i / 2 &&& 85)) / 4 &&& 51)) (fun i hi => by
          have := (pc_byte _ (hr i hi)).2.2.2
          omega)).2
        exact this
      have e2 : vB (fun _ => 68) 8 = 4919131752989213764 := by decide
      omega
    rw [show usL (lN (vB (fun i => (r i - (r i / 2 &&& 85) &&& 51) + ((r i - (r i / 2 &&& 85)) / 4 &&& 51)) 8)) 4 = lN (vB (fun i => (r i - (r i / 2 &&& 85) &&& 51) + ((r i - (r i / 2 &&& 85)) / 4 &&& 51)) 8 / 2 ^ 4) from wc_shr (k := 4) (lt8 _ b1) (by decide), lN_add, m15, show (2 : Nat) ^ 4 = 16 from rfl, wc_and hlt (c 15 (by decide)), nib 8 _ (fun i hi => ⟨(pc_byte _ (hr i hi)).2.2.2.1, (pc_byte _ (hr i hi)).2.2.2.2.1⟩)]
    exact congrArg lN (vB_cg (fun i hi => (pc_byte _ (hr i hi)).2.2.2.2.2))
  obtain ⟨t1, t2⟩ := bc_sum (w := fun i => pcN (r i)) (fun i _ => pcN_le _) (by rw [h6]; decide) (by rw [h7]; decide)
  unfold bcL bcL3
  rw [s2]
  generalize vB (fun i => pcN (r i)) 8 = V at t1 t2 ⊢
  rw [show usL (lN V) 8 = lN (V / 2 ^ 8) from wc_shr (k := 8) (by omega) (by decide), lN_add, show usL (lN (V + V / 2 ^ 8)) 16 = lN ((V + V / 2 ^ 8) / 2 ^ 16) from wc_shr (k := 16) (by omega) (by decide), lN_add, show usL (lN (V + V / 2 ^ 8 + (V + V / 2 ^ 8) / 2 ^ 16)) 32 = lN ((V + V / 2 ^ 8 + (V + V / 2 ^ 8) / 2 ^ 16) / 2 ^ 32) from wc_shr (k := 32) (by omega) (by decide), lN_add, lN_i]
  have e : ∀ n : Nat, nI n &&& 127 = nI (n % 128) := fun n => by
    show nI n &&& nI 127 = _
    rw [and_nI, show (127 : Nat) = 2 ^ 7 - 1 from rfl, Nat.and_two_pow_sub_one_eq_mod]
  rw [e]
  exact congrArg nI t1
