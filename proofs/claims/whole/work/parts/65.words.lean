/-! words of 64 bits -/
def lb (x : Int64) (t : Nat) : Bool := x.toBitVec.getLsbD t
theorem lb_and (x y : Int64) (t : Nat) : lb (x &&& y) t = (lb x t && lb y t) := by unfold lb; rw [Int64.toBitVec_and, BitVec.getLsbD_and]
theorem lb_or (x y : Int64) (t : Nat) : lb (x ||| y) t = (lb x t || lb y t) := by unfold lb; rw [Int64.toBitVec_or, BitVec.getLsbD_or]
theorem lb_xor (x y : Int64) (t : Nat) : lb (x ^^^ y) t = (lb x t ^^ lb y t) := by unfold lb; rw [Int64.toBitVec_xor, BitVec.getLsbD_xor]
theorem lb_zero (t : Nat) : lb 0 t = false := by unfold lb; exact BitVec.getLsbD_zero
theorem lb_out (x : Int64) {t : Nat} (h : 64 ≤ t) : lb x t = false := BitVec.getLsbD_of_ge _ _ h
theorem lb_m1 {t : Nat} (h : t < 64) : lb (-1) t = true := by
  have : ∀ t, t < 64 → lb (-1) t = true := by decide +kernel
  exact this t h
theorem lb_not (x : Int64) {t : Nat} (h : t < 64) : lb (x ^^^ (-1)) t = !lb x t := by rw [lb_xor, lb_m1 h]; cases lb x t <;> rfl
theorem lb_ext {x y : Int64} (h : ∀ t, t < 64 → lb x t = lb y t) : x = y := Int64.toBitVec_inj.1 (BitVec.eq_of_getLsbD_eq (fun i hi => h i hi))
theorem lb_lN (n t : Nat) (h : t < 64) : lb (lN n) t = n.testBit t := by
  unfold lb lN
  show (BitVec.ofNat 64 n).getLsbD t = _
  rw [BitVec.getLsbD_ofNat]; simp [h]
theorem sh63 : ∀ k, k < 64 → (((nI k).toInt64 &&& 63).toBitVec.smod 64).toNat = k := by decide +kernel
theorem ush63 : ∀ k, k < 64 → (((nI k).toInt64.toUInt64 &&& Int64.toUInt64 63).toBitVec % 64).toNat = k := by decide +kernel
theorem lb_shl (x : Int64) {k t : Nat} (hk : k < 64) (ht : t < 64) : lb (shlL x (nI k)) t = (decide (k ≤ t) && lb x (t - k)) := by
  unfold lb shlL
  show (x.toBitVec <<< (((nI k).toInt64 &&& 63).toBitVec.smod 64).toNat).getLsbD t = _
  rw [sh63 k hk, BitVec.getLsbD_shiftLeft]
  by_cases h : k ≤ t
  · have h' : ¬ t < k := (by omega)
    simp [h, h', ht]
  · have h' : t < k := (by omega)
    simp [h, h']
theorem lb_one (t : Nat) : lb 1 t = decide (t = 0) := by
  by_cases h : t < 64
  · have : (1 : Int64) = lN 1 := rfl
    rw [this, lb_lN _ _ h]
    by_cases e : t = 0
    · subst e; rfl
    · obtain ⟨t, rfl⟩ : ∃ u, t = u + 1 := ⟨t - 1, (by omega)⟩
      simp [Nat.testBit_succ]
  · rw [lb_out _ (by omega)]; simp; omega
theorem lb_bit {k t : Nat} (hk : k < 64) (ht : t < 64) : lb (shlL 1 (nI k)) t = decide (t = k) := by
  rw [lb_shl _ hk ht, lb_one]
  by_cases e : t = k
  · subst e; simp
  · by_cases h : k ≤ t
    · have : ¬ t - k = 0 := (by omega)
      simp [e, this]
    · simp [e, h]
theorem ush_bv (x : Int64) {k : Nat} (hk : k < 64) : (ushL x (nI k)).toBitVec = x.toBitVec >>> k := by
  unfold ushL
  show x.toBitVec >>> (((nI k).toInt64.toUInt64 &&& Int64.toUInt64 63).toBitVec % 64).toNat = _
  rw [ush63 k hk]
theorem lb_ush (x : Int64) {k t : Nat} (hk : k < 64) : lb (ushL x (nI k)) t = lb x (k + t) := by
  unfold lb
  rw [ush_bv x hk, BitVec.getLsbD_ushiftRight]
theorem lb_shr0 (x : Int64) {k : Nat} (hk : k < 64) : lb (shrL x (nI k)) 0 = lb x k := by
  unfold lb shrL
  show (x.toBitVec.sshiftRight (((nI k).toInt64 &&& 63).toBitVec.smod 64).toNat).getLsbD 0 = _
  rw [sh63 k hk, BitVec.getLsbD_sshiftRight]
  simp [hk]
theorem and1L (x : Int64) : x &&& 1 = if lb x 0 then 1 else 0 := by
  apply lb_ext
  intro t ht
  rw [lb_and, lb_one]
  by_cases e : t = 0
  · subst e
    cases h : lb x 0
    · simp [lb_zero]
    · simp [lb_one]
  · cases h : lb x 0
    · simp [e, lb_zero]
    · simp [e, lb_one]
-- how many bits: the machine's way
def val : List Nat → Nat
  | [] => 0
  | b :: l => b + 256 * val l
def byts : Nat → Nat → List Nat
  | 0, _ => []
  | m + 1, x => x % 256 :: byts m (x / 256)
theorem val_byts : ∀ (m x : Nat), x < 256 ^ m → val (byts m x) = x
  | 0, x, h => by simp at h; subst h; rfl
  | m + 1, x, h => by
    rw [byts, val, val_byts m (x / 256) (by rw [Nat.pow_succ] at h; omega)]
    omega
def pop8 (b : Nat) : Nat := cn (fun t => b.testBit t) 8
theorem and_256 {a c u v : Nat} (ha : a < 256) (hc : c < 256) : (a + 256 * u) &&& (c + 256 * v) = (a &&& c) + 256 * (u &&& v) := by
  have h1 : a &&& c < 256 := Nat.and_lt_two_pow (n := 8) a hc
  apply Nat.eq_of_testBit_eq
  intro i
  rw [Nat.testBit_and, Nat.add_comm a, Nat.add_comm c, Nat.add_comm (a &&& c)]
  rw [show (256 : Nat) = 2 ^ 8 from rfl, Nat.testBit_two_pow_mul_add u ha, Nat.testBit_two_pow_mul_add v hc, Nat.testBit_two_pow_mul_add _ h1]
  by_cases hi : i < 8
  · simp [hi, Nat.testBit_and]
  · simp [hi, Nat.testBit_and]
def m5 (m : Nat) : Nat := val (List.replicate m 0x55)
def m3 (m : Nat) : Nat := val (List.replicate m 0x33)
def mF (m : Nat) : Nat := val (List.replicate m 0x0f)
def c1 (b : Nat) : Nat := b - (b / 2 &&& 0x55)
def c2 (c : Nat) : Nat := (c &&& 0x33) + (c / 4 &&& 0x33)
def c3 (c : Nat) : Nat := (c + c / 16) &&& 0x0f
theorem k1 : ∀ b, b < 256 → ∀ y, y < 2 → (b / 2 + 128 * y) &&& 0x55 = b / 2 &&& 0x55 := by decide +kernel
theorem k1b : ∀ b, b < 256 → (b / 2 &&& 0x55) ≤ b ∧ c1 b < 256 := by decide +kernel
theorem k2 : ∀ b, b < 256 → ∀ y, y < 4 → (b / 4 + 64 * y) &&& 0x33 = b / 4 &&& 0x33 := by decide +kernel
theorem k2b : ∀ b, b < 256 → c2 (c1 b) < 69 ∧ c2 (c1 b) % 16 ≤ 4 := by decide +kernel
theorem k3 : ∀ c, c < 69 → ∀ y, y < 5 → (c + c / 16 + 16 * y) &&& 0x0f = (c + c / 16) &&& 0x0f := by decide +kernel
theorem k4 : ∀ b, b < 256 → c3 (c2 (c1 b)) = pop8 b := by decide +kernel
theorem st1 : ∀ (l : List Nat), (∀ b ∈ l, b < 256) → (val l / 2 &&& m5 l.length) ≤ val l ∧ val l - (val l / 2 &&& m5 l.length) = val (l.map c1)
  | [], _ => ⟨by simp [val], rfl⟩
  | b :: l, h => by
    have hb := h b List.mem_cons_self
    obtain ⟨i1, i2⟩ := st1 l (fun x hx => h x (List.mem_cons_of_mem _ hx))
    have e : val (b :: l) / 2 = (b / 2 + 128 * (val l % 2)) + 256 * (val l / 2) := by rw [val]; omega
    have em : m5 (b :: l).length = 0x55 + 256 * m5 l.length := rfl
    have a := k1 b hb (val l % 2) (by omega)
    have a2 := k1b b hb
    have hc : c1 b = b - (b / 2 &&& 0x55) := rfl
    rw [e, em, and_256 (by omega) (by decide), a, List.map_cons, val, val, ← i2]
    omega
theorem c1_lt {b : Nat} (h : b < 256) : c1 b < 256 := (k1b b h).2
theorem st2 : ∀ (l : List Nat), (∀ b ∈ l, b < 256) → (val l &&& m3 l.length) + (val l / 4 &&& m3 l.length) = val (l.map c2)
  | [], _ => rfl
  | b :: l, h => by
    have hb := h b List.mem_cons_self
    have i2 := st2 l (fun x hx => h x (List.mem_cons_of_mem _ hx))
    have e : val (b :: l) / 4 = (b / 4 + 64 * (val l % 4)) + 256 * (val l / 4) := by rw [val]; omega
    have em : m3 (b :: l).length = 0x33 + 256 * m3 l.length := rfl
    have a := k2 b hb (val l % 4) (by omega)
    rw [e, em, and_256 (by omega) (by decide), a]
    rw [show val (b :: l) = b + 256 * val l from rfl, and_256 hb (by decide), List.map_cons, val]
    have hc : c2 b = (b &&& 0x33) + (b / 4 &&& 0x33) := rfl
    rw [hc]
    omega
theorem st3 : ∀ (l : List Nat), (∀ c ∈ l, c < 69 ∧ c % 16 ≤ 4) → ((val l + val l / 16) &&& mF l.length) = val (l.map c3)
  | [], _ => rfl
  | c :: l, h => by
    have hc := h c List.mem_cons_self
    have i2 := st3 l (fun x hx => h x (List.mem_cons_of_mem _ hx))
    have em : mF (c :: l).length = 0x0f + 256 * mF l.length := rfl
    have hy : val l % 16 < 5 := by
      match l, h with
      | [], _ => decide
      | d :: l', h =>
        have := h d (List.mem_cons_of_mem _ List.mem_cons_self)
        rw [val]; omega
    have a := k3 c hc.1 (val l % 16) hy
    have e : val (c :: l) + val (c :: l) / 16 = (c + c / 16 + 16 * (val l % 16)) + 256 * (val l + val l / 16) := by rw [val]; omega
    rw [e, em, and_256 (by omega) (by decide), a, i2, List.map_cons, val]
    rfl
theorem cn_split (P : Nat → Bool) (a : Nat) : ∀ m, cn P (a + m) = cn P a + cn (fun t => P (a + t)) m
  | 0 => rfl
  | m + 1 => by rw [← Nat.add_assoc, cn, cn_split P a m, cn]; omega
theorem cn_val : ∀ (l : List Nat), (∀ b ∈ l, b < 256) → cn (fun t => (val l).testBit t) (8 * l.length) = (l.map pop8).sum
  | [], _ => rfl
  | b :: l, h => by
    have hb := h b List.mem_cons_self
    have i2 := cn_val l (fun x hx => h x (List.mem_cons_of_mem _ hx))
    rw [List.length_cons, Nat.mul_succ, Nat.add_comm (8 * l.length) 8, cn_split, List.map_cons, List.sum_cons, ← i2]
    have e : ∀ t, (val (b :: l)).testBit t = if t < 8 then b.testBit t else (val l).testBit (t - 8) := by
      intro t
      rw [val, Nat.add_comm, show (256 : Nat) = 2 ^ 8 from rfl, Nat.testBit_two_pow_mul_add _ hb]
    congr 1
    · refine cn_cong (fun k hk => ?_)
      rw [e, if_pos hk]
    · refine cn_cong (fun k hk => ?_)
      rw [e, if_neg (by omega), Nat.add_sub_cancel_left]
theorem byts_lt : ∀ (m x : Nat), ∀ b ∈ byts m x, b < 256
  | 0, _, b, h => by simp [byts] at h
  | m + 1, x, b, h => by
    rw [byts] at h
    rcases List.mem_cons.mp h with h | h
    · subst h; exact Nat.mod_lt _ (by decide)
    · exact byts_lt m _ b h
theorem byts_len : ∀ (m x : Nat), (byts m x).length = m
  | 0, _ => rfl
  | m + 1, x => by rw [byts, List.length_cons, byts_len m]
theorem pop8_le : ∀ b, pop8 b ≤ 8 := fun b => cn_le _ _
theorem toNat_ush (x : Int64) {k : Nat} (hk : k < 64) : (ushL x (nI k)).toBitVec.toNat = x.toBitVec.toNat / 2 ^ k := by
  rw [ush_bv x hk, BitVec.toNat_ushiftRight, Nat.shiftRight_eq_div_pow]
theorem toNat_andL (x y : Int64) : (x &&& y).toBitVec.toNat = x.toBitVec.toNat &&& y.toBitVec.toNat := by rw [Int64.toBitVec_and, BitVec.toNat_and]
theorem toNat_subL {x y : Int64} (h : y.toBitVec.toNat ≤ x.toBitVec.toNat) : (x - y).toBitVec.toNat = x.toBitVec.toNat - y.toBitVec.toNat := by
  rw [Int64.toBitVec_sub, BitVec.toNat_sub_of_le (BitVec.le_def.mpr h)]
theorem toNat_addL {x y : Int64} (h : x.toBitVec.toNat + y.toBitVec.toNat < 2 ^ 64) : (x + y).toBitVec.toNat = x.toBitVec.toNat + y.toBitVec.toNat := by
  rw [Int64.toBitVec_add, BitVec.toNat_add, Nat.mod_eq_of_lt h]
theorem dv {a B : Nat} (h : a < 256) : (a + 256 * B) / 256 = B := by rw [Nat.add_mul_div_left _ _ (by decide), Nat.div_eq_of_lt h, Nat.zero_add]
theorem ad (x X y Y : Nat) : (x + 256 * X) + (y + 256 * Y) = (x + y) + 256 * (X + Y) := by omega
theorem ad0 (x X y : Nat) : (x + 256 * X) + y = (x + y) + 256 * X := by omega
theorem bd {x X M : Nat} (hx : x < 256) (hX : X < M) : x + 256 * X < 256 * M := by omega
theorem last8 {a b c d e f g h : Nat} (h0 : a ≤ 8) (h1 : b ≤ 8) (h2 : c ≤ 8) (h3 : d ≤ 8) (h4 : e ≤ 8) (h5 : f ≤ 8) (h6 : g ≤ 8) (h7 : h ≤ 8) (v3 v4 v5 v6 : Nat) (e3 : v3 = a + 256 * (b + 256 * (c + 256 * (d + 256 * (e + 256 * (f + 256 * (g + 256 * h))))))) (e4 : v4 = v3 + v3 / 256) (e5 : v5 = v4 + v4 / 65536) (e6 : v6 = v5 + v5 / 4294967296) : v6 < 2 ^ 64 ∧ v6 % 128 = a + b + c + d + e + f + g + h := by
  have d3 : v3 / 256 = b + 256 * (c + 256 * (d + 256 * (e + 256 * (f + 256 * (g + 256 * h))))) := by rw [e3, dv (by omega)]
  have f4 : v4 = (a + b) + 256 * ((b + c) + 256 * ((c + d) + 256 * ((d + e) + 256 * ((e + f) + 256 * ((f + g) + 256 * ((g + h) + 256 * h)))))) := by rw [e4, d3, e3, ad, ad, ad, ad, ad, ad, ad0]
  have d4 : v4 / 65536 = (c + d) + 256 * ((d + e) + 256 * ((e + f) + 256 * ((f + g) + 256 * ((g + h) + 256 * h)))) := by
    rw [show (65536 : Nat) = 256 * 256 from rfl, ← Nat.div_div_eq_div_mul, f4, dv (by omega), dv (by omega)]
  have f5 : v5 = (a + b + (c + d)) + 256 * ((b + c + (d + e)) + 256 * ((c + d + (e + f)) + 256 * ((d + e + (f + g)) + 256 * ((e + f + (g + h)) + 256 * ((f + g + h) + 256 * ((g + h) + 256 * h)))))) := by rw [e5, d4, f4, ad, ad, ad, ad, ad, ad0]
  have d5 : v5 / 4294967296 = (e + f + (g + h)) + 256 * ((f + g + h) + 256 * ((g + h) + 256 * h)) := by
    rw [show (4294967296 : Nat) = 256 * 256 * 256 * 256 from rfl, ← Nat.div_div_eq_div_mul, ← Nat.div_div_eq_div_mul, ← Nat.div_div_eq_div_mul, f5]
    clear e3 e4 e5 e6 d3 d4 f4 f5
    rw [dv (by omega), dv (by omega), dv (by omega), dv (by omega)]
  have f6 : v6 = (a + b + (c + d) + (e + f + (g + h))) + 256 * ((b + c + (d + e) + (f + g + h)) + 256 * ((c + d + (e + f) + (g + h)) + 256 * ((d + e + (f + g) + h) + 256 * ((e + f + (g + h)) + 256 * ((f + g + h) + 256 * ((g + h) + 256 * h)))))) := by rw [e6, d5, f5, ad, ad, ad, ad0]
  clear e3 e4 e5 e6 d3 d4 d5
  refine ⟨?_, ?_⟩
  · rw [f6]; clear f4 f5 f6
    exact bd (by omega) (bd (by omega) (bd (by omega) (bd (by omega) (bd (by omega) (bd (by omega) (bd (M := 256) (by omega) (by omega)))))))
  · have : ∀ S T : Nat, S < 128 → (S + 256 * T) % 128 = S := by intro S T hS; clear f4 f5 f6; omega
    rw [f6, this _ _ (by clear f4 f5 f6; omega)]; clear f4 f5 f6; omega
theorem sPop (N : Nat) (x : Int64) (μ : Mem) : f_JLong_bitCount N x μ = some (nI (cn (lb x) 64), μ) := by
  have hX : x.toBitVec.toNat < 256 ^ 8 := x.toBitVec.isLt
  have hv := val_byts 8 x.toBitVec.toNat hX
  have hbl := byts_lt 8 x.toBitVec.toNat
  have hln := byts_len 8 x.toBitVec.toNat
  generalize byts 8 x.toBitVec.toNat = l at hv hbl hln
  obtain ⟨s1a, s1b⟩ := st1 l hbl
  have s2 := st2 (l.map c1) (fun b hb => by obtain ⟨z, hz, rfl⟩ := List.mem_map.mp hb; exact c1_lt (hbl z hz))
  have s3 := st3 ((l.map c1).map c2) (fun b hb => by
    obtain ⟨y, hy, rfl⟩ := List.mem_map.mp hb
    obtain ⟨z, hz, rfl⟩ := List.mem_map.mp hy
    exact k2b z (hbl z hz))
  have hm : ((l.map c1).map c2).map c3 = l.map pop8 := by
    rw [List.map_map, List.map_map]
    apply List.map_congr_left
    intro b hb
    exact k4 b (hbl b hb)
  rw [hm] at s3
  rw [List.length_map] at s2
  rw [List.length_map, List.length_map] at s3
  rw [hln] at s1a s1b s2 s3
  have hcn : cn (lb x) 64 = (l.map pop8).sum := by
    rw [← cn_val l hbl, hln, hv]
    rfl
  have a5 : (6148914691236517205 : Int64).toBitVec.toNat = m5 8 := by decide
  have a3 : (3689348814741910323 : Int64).toBitVec.toNat = m3 8 := by decide
  have aF : (1085102592571150095 : Int64).toBitVec.toNat = mF 8 := by decide
  match l, hln with
  | [q0, q1, q2, q3, q4, q5, q6, q7], _ =>
    unfold f_JLong_bitCount
    simp only [lt']
    obtain ⟨v1, e1⟩ : ∃ v1, v1 = x - (ushL x 1 &&& 6148914691236517205) := ⟨_, rfl⟩
    obtain ⟨v2, e2⟩ : ∃ v2, v2 = (v1 &&& 3689348814741910323) + (ushL v1 2 &&& 3689348814741910323) := ⟨_, rfl⟩
    obtain ⟨v3, e3⟩ : ∃ v3, v3 = (v2 + ushL v2 4) &&& 1085102592571150095 := ⟨_, rfl⟩
    obtain ⟨v4, e4⟩ : ∃ v4, v4 = v3 + ushL v3 8 := ⟨_, rfl⟩
    obtain ⟨v5, e5⟩ : ∃ v5, v5 = v4 + ushL v4 16 := ⟨_, rfl⟩
    obtain ⟨v6, e6⟩ : ∃ v6, v6 = v5 + ushL v5 32 := ⟨_, rfl⟩
    rw [← e1, ← e2, ← e3, ← e4, ← e5, ← e6]
    have p0 := pop8_le q0
    have p1 := pop8_le q1
    have p2 := pop8_le q2
    have p3 := pop8_le q3
    have p4 := pop8_le q4
    have p5 := pop8_le q5
    have p6 := pop8_le q6
    have p7 := pop8_le q7
    have u1 : v1.toBitVec.toNat = val ([q0, q1, q2, q3, q4, q5, q6, q7].map c1) := by
      have z : (ushL x 1 &&& 6148914691236517205).toBitVec.toNat = val [q0, q1, q2, q3, q4, q5, q6, q7] / 2 &&& m5 8 := by
        rw [toNat_andL, a5, show (1 : Int32) = nI 1 from rfl, toNat_ush x (by decide), hv]
      rw [e1, toNat_subL (by rw [z, ← hv]; exact s1a), z, ← hv]
      exact s1b
    have u2 : v2.toBitVec.toNat = val (([q0, q1, q2, q3, q4, q5, q6, q7].map c1).map c2) := by
      have z1 : (v1 &&& 3689348814741910323).toBitVec.toNat = v1.toBitVec.toNat &&& m3 8 := by rw [toNat_andL, a3]
      have z2 : (ushL v1 2 &&& 3689348814741910323).toBitVec.toNat = v1.toBitVec.toNat / 4 &&& m3 8 := by
        rw [toNat_andL, a3, show (2 : Int32) = nI 2 from rfl, toNat_ush v1 (by decide)]
      have l1 : v1.toBitVec.toNat &&& m3 8 < 2 ^ 63 := Nat.and_lt_two_pow _ (by decide)
      have l2 : v1.toBitVec.toNat / 4 &&& m3 8 < 2 ^ 63 := Nat.and_lt_two_pow _ (by decide)
      rw [e2, toNat_addL (by rw [z1, z2]; omega), z1, z2, u1]
      exact s2
    have b2 : v2.toBitVec.toNat < 2 ^ 63 := by
      have z1 : (v1 &&& 3689348814741910323).toBitVec.toNat = v1.toBitVec.toNat &&& m3 8 := by rw [toNat_andL, a3]
      have z2 : (ushL v1 2 &&& 3689348814741910323).toBitVec.toNat = v1.toBitVec.toNat / 4 &&& m3 8 := by
        rw [toNat_andL, a3, show (2 : Int32) = nI 2 from rfl, toNat_ush v1 (by decide)]
      have l1 : v1.toBitVec.toNat &&& m3 8 < 2 ^ 62 := Nat.and_lt_two_pow _ (by decide)
      have l2 : v1.toBitVec.toNat / 4 &&& m3 8 < 2 ^ 62 := Nat.and_lt_two_pow _ (by decide)
      rw [e2, toNat_addL (by rw [z1, z2]; omega), z1, z2]
      omega
    have u3 : v3.toBitVec.toNat = val ([q0, q1, q2, q3, q4, q5, q6, q7].map pop8) := by
      have z : (ushL v2 4).toBitVec.toNat = v2.toBitVec.toNat / 16 := by rw [show (4 : Int32) = nI 4 from rfl, toNat_ush v2 (by decide)]
      rw [e3, toNat_andL, aF, toNat_addL (by rw [z]; omega), z, u2]
      exact s3
    clear e1 e2 e3 s1a s1b s2 s3 hm hv hX b2 u1 u2
    have L := last8 p0 p1 p2 p3 p4 p5 p6 p7 v3.toBitVec.toNat _ _ _ u3 rfl rfl rfl
    obtain ⟨L1, L2⟩ := L
    have z4 : (ushL v3 8).toBitVec.toNat = v3.toBitVec.toNat / 256 := by rw [show (8 : Int32) = nI 8 from rfl, toNat_ush v3 (by decide)]
    have w4 : v4.toBitVec.toNat = v3.toBitVec.toNat + v3.toBitVec.toNat / 256 := by
      rw [e4, toNat_addL (by rw [z4]; exact Nat.lt_of_le_of_lt (Nat.le_trans (Nat.le_add_right _ _) (Nat.le_add_right _ _)) L1), z4]
    have z5 : (ushL v4 16).toBitVec.toNat = v4.toBitVec.toNat / 65536 := by rw [show (16 : Int32) = nI 16 from rfl, toNat_ush v4 (by decide)]
    rw [← w4] at L1 L2
    have w5 : v5.toBitVec.toNat = v4.toBitVec.toNat + v4.toBitVec.toNat / 65536 := by
      rw [e5, toNat_addL (by rw [z5]; exact Nat.lt_of_le_of_lt (Nat.le_add_right _ _) L1), z5]
    rw [← w5] at L1 L2
    have z6 : (ushL v5 32).toBitVec.toNat = v5.toBitVec.toNat / 4294967296 := by rw [show (32 : Int32) = nI 32 from rfl, toNat_ush v5 (by decide)]
    have w6 : v6.toBitVec.toNat = v5.toBitVec.toNat + v5.toBitVec.toNat / 4294967296 := by
      rw [e6, toNat_addL (by rw [z6]; exact L1), z6]
    rw [← w6] at L1 L2
    rw [pk_and (Int64.toInt32 v6) 7 rfl]
    have e7 : (Int64.toInt32 v6).toBitVec.toNat = v6.toBitVec.toNat % 2 ^ 32 := by
      show (v6.toBitVec.signExtend 32).toNat = _
      rw [BitVec.signExtend_eq_setWidth_of_le _ (by decide), BitVec.toNat_setWidth]
    rw [e7, Nat.mod_mod_of_dvd _ (show 2 ^ 7 ∣ 2 ^ 32 by decide), show (2 ^ 7 : Nat) = 128 from rfl, L2, hcn]
    simp [Nat.add_assoc]
