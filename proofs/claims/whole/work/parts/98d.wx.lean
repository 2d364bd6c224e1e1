/-! the pure course: what it says -/
theorem val_mod : ∀ l : List Nat, val l % 255 = l.sum % 255
  | [] => rfl
  | b :: l => by
    have ih := val_mod l
    rw [val, List.sum_cons]
    omega
theorem sum_le8 : ∀ l : List Nat, (l.map pop8).sum ≤ 8 * l.length
  | [] => Nat.le_refl _
  | b :: l => by
    have ih := sum_le8 l
    have := pop8_le b
    rw [List.map_cons, List.sum_cons, List.length_cons]
    omega
theorem pf_pcn {x : Nat} (h : x < 2 ^ 64) : pf x = pcn x := by
  have hX : x < 256 ^ 8 := h
  have hv := val_byts 8 x hX
  have hbl := byts_lt 8 x
  have hln := byts_len 8 x
  generalize byts 8 x = l at hv hbl hln
  obtain ⟨s1a, s1b⟩ := st1 l hbl
  have s2 := st2 (l.map c1) (fun b hb => by obtain ⟨z, hz, rfl⟩ := List.mem_map.mp hb; exact c1_lt (hbl z hz))
  have s3 := st3 ((l.map c1).map c2) (fun b hb => by
    obtain ⟨y, hy, rfl⟩ := List.mem_map.mp hb
    obtain ⟨z, hz, rfl⟩ := List.mem_map.mp hy
    exact k2b z (hbl z hz))
  have hm : ((l.map c1).map c2).map c3 = l.map pop8 := by
    rw [List.map_map, List.map_map]
    apply List.map_congr_left
    intro b hb
    exact k4 b (hbl b hb)
  rw [hm] at s3
  rw [List.length_map] at s2
  rw [List.length_map, List.length_map] at s3
  rw [hln] at s1a s1b s2 s3
  have a5 : m5 8 = 6148914691236517205 := by decide
  have a3 : m3 8 = 3689348814741910323 := by decide
  have aF : mF 8 = 1085102592571150095 := by decide
  rw [a5, hv] at s1b
  rw [a3] at s2
  rw [aF] at s3
  have p1 : pf1 x = val (l.map c1) := s1b
  have p2 : pf2 (val (l.map c1)) = val ((l.map c1).map c2) := s2
  have hcn : cn (fun t => (val l).testBit t) (8 * l.length) = (l.map pop8).sum := cn_val l hbl
  have sl := sum_le8 l
  rw [hln] at hcn sl
  unfold pf
  rw [p1, p2, s3, val_mod, Nat.mod_eq_of_lt (by omega), ← hcn, hv]
  rfl
theorem anyk_t (P : Nat → Bool) : ∀ m, anyk P m = true ↔ ∃ k, k < m ∧ P k = true
  | 0 => by
    rw [anyk]
    constructor
    · intro h; cases h
    · rintro ⟨k, h, _⟩; omega
  | m + 1 => by
    rw [anyk, Bool.or_eq_true, anyk_t P m]
    constructor
    · rintro (h | ⟨k, h1, h2⟩)
      · exact ⟨m, (by omega), h⟩
      · exact ⟨k, (by omega), h2⟩
    · rintro ⟨k, h1, h2⟩
      by_cases e : k = m
      · subst e; exact Or.inl h2
      · exact Or.inr ⟨k, (by omega), h2⟩
theorem and64 {a b : Nat} (h : a < 2 ^ 64) : a &&& b < 2 ^ 64 := Nat.lt_of_le_of_lt Nat.and_le_left h
theorem fitb_t {n g d t k : Nat} (h6 : n ≤ 6) (hd : d < n) (hk : k < n - 1 - d) (ht : t < 2 ^ 2 ^ n) (hg : g < 2 ^ 64) (h : cw n g d t ≠ 0) : fitb t g k = true := by
  have t64 := set64 h6 ht
  have inv : ∀ i j q, n - 1 - d ≤ i → i < j → j < n → q < 64 → tb (sp q i j) k = tb q k := by
    intro i j q h1 h2 h3 h4
    rw [sp_tb i (by omega) j (by omega) h2 q h4 k (by omega)]
    unfold sg
    rw [if_neg (by omega), if_neg (by omega)]
  have pa : ∀ X, pcn (X &&& colN k) = cn (fun q => X.testBit q && decide (tb q k = 1)) 64 := fun X => cn_congr 64 (fun q hq => by rw [Nat.testBit_and, colN_t k (by omega) q hq])
  have pb : ∀ X, pcn (X &&& (colN k ^^^ M64)) = cn (fun q => X.testBit q && !decide (tb q k = 1)) 64 := fun X => cn_congr 64 (fun q hq => by
    rw [Nat.testBit_and, Nat.testBit_xor, colN_t k (by omega) q hq, M64_t]
    simp [hq])
  have c1' := cw_fit h6 (fun q => decide (tb q k = 1)) d t hd ht (fun i j q h1 h2 h3 h4 => by rw [inv i j q h1 h2 h3 h4]) h
  have c2' := cw_fit h6 (fun q => !decide (tb q k = 1)) d t hd ht (fun i j q h1 h2 h3 h4 => by rw [inv i j q h1 h2 h3 h4]) h
  rw [← pa, ← pa] at c1'
  rw [← pb, ← pb] at c2'
  unfold fitb
  rw [pf_pcn (and64 t64), pf_pcn (and64 hg), pf_pcn (and64 t64), pf_pcn (and64 hg), Bool.and_eq_true]
  exact ⟨Nat.ble_eq_true_of_le c1', Nat.ble_eq_true_of_le c2'⟩
theorem wx_cw {n g : Nat} (h6 : n ≤ 6) (hg : g < 2 ^ 64) : ∀ d s, d < n → s < 2 ^ 2 ^ n → (wx n g d s = true ↔ cw n g d s ≠ 0)
  | 0, s, hd, hs => by
    rw [wx, cw_0]
    constructor
    · intro h
      have e := Nat.eq_of_beq_eq_true h
      rw [if_pos]
      · decide
      · intro p _ hp
        rw [← e, Nat.testBit_and, Bool.and_eq_true] at hp
        exact hp.2
    · intro h
      split at h
      · rename_i z
        have e : s &&& g = s := by
          apply Nat.eq_of_testBit_eq
          intro q
          rw [Nat.testBit_and]
          cases y : s.testBit q with
          | false => rfl
          | true => rw [z q (set_t hs y) y]; rfl
        rw [e]
        exact Nat.beq_refl s
      · exact absurd rfl h
  | d + 1, s, hd, hs => by
    rw [wx, anyk_t, cw_succ h6 hd]
    constructor
    · rintro ⟨k, hk, h⟩
      rw [frc_eq, Bool.and_eq_true] at h
      have l := exN_lt h6 hs (show n - 1 - (d + 1) ≤ n - 1 - (d + 1) + k by omega) (by omega)
      have q := (wx_cw h6 hg d _ (by omega) l).mp h.2
      intro z
      have : ∀ m, k < m → cws (fun k => cw n g d (exN s (n - 1 - (d + 1)) (n - 1 - (d + 1) + k))) m ≠ 0 := by
        intro m
        induction m with
        | zero => intro h; omega
        | succ m ih =>
          intro h
          rw [cws]
          by_cases e : k = m
          · subst e; omega
          · have := ih (by omega); omega
      exact this _ hk z
    · intro h
      obtain ⟨k, hk, h2⟩ := cws_ne h
      have l := exN_lt h6 hs (show n - 1 - (d + 1) ≤ n - 1 - (d + 1) + k by omega) (by omega)
      refine ⟨k, hk, ?_⟩
      rw [frc_eq, Bool.and_eq_true]
      exact ⟨fitb_t h6 (by omega) (by omega) l hg h2, (wx_cw h6 hg d _ (by omega) l).mpr h2⟩
def Wi (n a b : Nat) : Bool := decide (cw n b (n - 1) a ≠ 0)
theorem Wx_W {n a b : Nat} (h1 : 1 ≤ n) (h6 : n ≤ 6) (ha : a < 2 ^ 2 ^ n) (hb : b < 2 ^ 2 ^ n) : Wx n a b = Wi n a b := by
  have a64 := set64 h6 ha
  have b64 := set64 h6 hb
  have w := wx_cw h6 b64 (n - 1) a (by omega) ha
  unfold Wx Wi
  apply Bool.eq_iff_iff.mpr
  rw [Bool.and_eq_true, decide_eq_true_iff, w, pf_pcn a64, pf_pcn b64]
  constructor
  · intro h; exact h.2
  · intro h; exact ⟨Nat.ble_eq_true_of_le (cw_le h6 (by omega) ha h), h⟩
def fCd (n : Nat) (W : Nat → Nat → Bool) : List Nat → List Nat → List Nat
  | [], fr => fr
  | S :: l, fr => fCd n W l (cns n W fr S)
def fK (n : Nat) (W : Nat → Nat → Bool) (ms : List (List (Nat × Nat))) : List Nat → List Nat → List Nat
  | [], fr => fr
  | S :: l, fr => fK n W ms l (fCd n W (cnd1 ms S) fr)
def capC (n : Nat) (W : Nat → Nat → Bool) : List Nat → List Nat → Prop
  | [], _ => True
  | S :: l, fr => (cns n W fr S).length ≤ 60 ∧ capC n W l (cns n W fr S)
def capK (n : Nat) (W : Nat → Nat → Bool) (ms : List (List (Nat × Nat))) : List Nat → List Nat → Prop
  | [], _ => True
  | S :: l, fr => capC n W (cnd1 ms S) fr ∧ capK n W ms l (fCd n W (cnd1 ms S) fr)
def BS (n : Nat) (l : List Nat) : Prop := ∀ s ∈ l, s < 2 ^ 2 ^ n
theorem any_cong {f g : Nat → Bool} : ∀ {l : List Nat}, (∀ x ∈ l, f x = g x) → l.any f = l.any g
  | [], _ => rfl
  | a :: l, h => by rw [List.any_cons, List.any_cons, h a List.mem_cons_self, any_cong (fun x hx => h x (List.mem_cons_of_mem _ hx))]
theorem filter_cong {f g : Nat → Bool} : ∀ {l : List Nat}, (∀ x ∈ l, f x = g x) → l.filter f = l.filter g
  | [], _ => rfl
  | a :: l, h => by rw [List.filter_cons, List.filter_cons, h a List.mem_cons_self, filter_cong (fun x hx => h x (List.mem_cons_of_mem _ hx))]
theorem cns_W {n : Nat} (h1 : 1 ≤ n) (h6 : n ≤ 6) {fr : List Nat} {S : Nat} (hf : BS n fr) (hS : S < 2 ^ 2 ^ n) : cns n (Wx n) fr S = cns n (Wi n) fr S := by
  unfold cns
  rw [any_cong (f := fun f => Wx n f S) (g := fun f => Wi n f S) (fun x hx => Wx_W h1 h6 (hf x hx) hS), filter_cong (f := fun f => !Wx n S f) (g := fun f => !Wi n S f) (fun x hx => by rw [Wx_W h1 h6 hS (hf x hx)])]
theorem bs_cns {n : Nat} {W : Nat → Nat → Bool} {fr : List Nat} {S : Nat} (hf : BS n fr) (hS : S < 2 ^ 2 ^ n) : BS n (cns n W fr S) := by
  unfold cns
  split
  · exact hf
  · intro s hs
    rcases List.mem_append.mp hs with h | h
    · exact hf s (List.mem_filter.mp h).1
    · rw [List.mem_singleton] at h
      subst h; exact hS
theorem bs_fC {n : Nat} {W : Nat → Nat → Bool} : ∀ {cd fr : List Nat}, BS n cd → BS n fr → BS n (fCd n W cd fr)
  | [], fr, _, hf => hf
  | S :: l, fr, hc, hf => by
    rw [fCd]
    exact bs_fC (fun x hx => hc x (List.mem_cons_of_mem _ hx)) (bs_cns hf (hc S List.mem_cons_self))
theorem stS_lt {n : Nat} (h6 : n ≤ 6) : ∀ (l : List (Nat × Nat)) (S : Nat), (∀ c ∈ l, c.1 < c.2 ∧ c.2 < n) → S < 2 ^ 2 ^ n → stS l S < 2 ^ 2 ^ n
  | [], S, _, h => h
  | c :: l, S, hc, h => by
    obtain ⟨c1', c2'⟩ := hc c List.mem_cons_self
    rw [stS]
    exact stS_lt h6 l _ (fun x hx => hc x (List.mem_cons_of_mem _ hx)) (cmpN_lt h6 h c1' c2')
def MSok (n : Nat) (ms : List (List (Nat × Nat))) : Prop := ∀ l ∈ ms, ∀ c ∈ l, c.1 < c.2 ∧ c.2 < n
theorem bs_cnd {n : Nat} (h6 : n ≤ 6) {ms : List (List (Nat × Nat))} (hm : MSok n ms) {S : Nat} (hS : S < 2 ^ 2 ^ n) : BS n (cnd1 ms S) := by
  intro s hs
  unfold cnd1 at hs
  obtain ⟨l, hl, rfl⟩ := List.mem_map.mp hs
  exact stS_lt h6 l S (hm l hl) hS
theorem foldC_t {n : Nat} (h1 : 1 ≤ n) (h6 : n ≤ 6) : ∀ (cd fr : List Nat) (k : List Nat → Bool), BS n cd → BS n fr → foldC n cd fr k = true → capC n (Wi n) cd fr ∧ k (fCd n (Wi n) cd fr) = true
  | [], fr, k, _, _, h => ⟨trivial, h⟩
  | S :: l, fr, k, hc, hf, h => by
    have hS := hc S List.mem_cons_self
    rw [foldC, frc_eq, nrm_eq, Bool.and_eq_true, cns_W h1 h6 hf hS] at h
    have ih := foldC_t h1 h6 l _ k (fun x hx => hc x (List.mem_cons_of_mem _ hx)) (bs_cns (W := Wi n) hf hS) h.2
    exact ⟨⟨Nat.le_of_ble_eq_true h.1, ih.1⟩, ih.2⟩
theorem foldK_t {n : Nat} (h1 : 1 ≤ n) (h6 : n ≤ 6) {ms : List (List (Nat × Nat))} (hm : MSok n ms) : ∀ (ke fr : List Nat) (k : List Nat → Bool), BS n ke → BS n fr → foldK n ms ke fr k = true → capK n (Wi n) ms ke fr ∧ k (fK n (Wi n) ms ke fr) = true ∧ BS n (fK n (Wi n) ms ke fr)
  | [], fr, k, _, hf, h => ⟨trivial, h, hf⟩
  | S :: l, fr, k, hc, hf, h => by
    have hS := hc S List.mem_cons_self
    rw [foldK] at h
    have cd := bs_cnd h6 hm hS
    have q := foldC_t h1 h6 _ fr _ cd hf h
    have ih := foldK_t h1 h6 hm l _ k (fun x hx => hc x (List.mem_cons_of_mem _ hx)) (bs_fC (W := Wi n) cd hf) q.2
    exact ⟨⟨q.1, ih.1⟩, ih.2⟩
def ovr (n : Nat) (kept : List Nat) : Bool := kept.any (fun s => decide (pcn s = n + 1))
theorem chk_t {n : Nat} (h1 : 1 ≤ n) (h6 : n ≤ 6) {ms : List (List (Nat × Nat))} (hm : MSok n ms) {f : Nat} {kept : List Nat} (hk : BS n kept) (h : chk n ms (f + 1) kept = true) : ovr n kept = true ∨ (ovr n kept = false ∧ capK n (Wi n) ms kept [] ∧ chk n ms f (fK n (Wi n) ms kept []) = true ∧ BS n (fK n (Wi n) ms kept [])) := by
  have e : kept.any (fun s => Nat.beq (pf s) (n + 1)) = ovr n kept := by
    unfold ovr
    refine any_cong (fun x hx => ?_)
    rw [pf_pcn (set64 h6 (hk x hx))]
    apply Bool.eq_iff_iff.mpr
    rw [Nat.beq_eq, decide_eq_true_iff]
  rw [chk, e] at h
  cases z : ovr n kept with
  | true => exact Or.inl rfl
  | false =>
    rw [z] at h
    have q := foldK_t h1 h6 hm kept [] _ hk (fun s hs => by simp at hs) h
    exact Or.inr ⟨rfl, q.1, q.2.1, q.2.2⟩
/-- behind each step how many are kept -/
def rws (n : Nat) (ms : List (List (Nat × Nat))) : Nat → List Nat → List Nat
  | 0, _ => []
  | f + 1, kept => if ovr n kept then [] else (fK n (Wi n) ms kept []).length :: rws n ms f (fK n (Wi n) ms kept [])
