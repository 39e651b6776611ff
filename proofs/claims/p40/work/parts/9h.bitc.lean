/-! Bits counted. -/
def popN : Nat → Nat → Nat
  | 0, _ => 0
  | d + 1, m => popN d m + m / 2 ^ d % 2
theorem popN_le (m : Nat) : ∀ d, popN d m ≤ d
  | 0 => Nat.le_refl _
  | d + 1 => by
    have := popN_le m d
    show popN d m + m / 2 ^ d % 2 ≤ _
    omega
theorem and_by (x y : Nat) : x &&& y = (x % 256 &&& y % 256) + 256 * (x / 256 &&& y / 256) := by
  have h1 := Nat.and_mod_two_pow (a := x) (b := y) (n := 8)
  have h2 := Nat.and_div_two_pow (a := x) (b := y) (n := 8)
  have h3 := Nat.mod_add_div (x &&& y) 256
  rw [show (256 : Nat) = 2 ^ 8 from rfl, ← h1, ← h2]
  exact h3.symm
theorem and_b3 {x c : Nat} (hc : c < 256) (hx : x < 16777216) : x &&& (c + 256 * (c + 256 * (c + 256 * c))) = (x % 256 &&& c) + 256 * (x / 256 % 256 &&& c) + 65536 * (x / 65536 &&& c) := by
  rw [and_by x, show (c + 256 * (c + 256 * (c + 256 * c))) % 256 = c by omega, show (c + 256 * (c + 256 * (c + 256 * c))) / 256 = c + 256 * (c + 256 * c) by omega]
  rw [and_by (x / 256), show (c + 256 * (c + 256 * c)) % 256 = c by omega, show (c + 256 * (c + 256 * c)) / 256 = c + 256 * c by omega]
  rw [and_by (x / 256 / 256), show (c + 256 * c) % 256 = c by omega, show (c + 256 * c) / 256 = c by omega]
  rw [show x / 256 / 256 / 256 = 0 by omega, Nat.zero_and, show x / 256 / 256 % 256 = x / 65536 by omega]
  omega
def fb1 (b : Nat) : Nat := b - (b / 2 &&& 85)
def fb2 (t : Nat) : Nat := (t &&& 51) + (t / 4 &&& 51)
def fb3 (u : Nat) : Nat := (u + u / 16) &&& 15
def pb8 (b : Nat) : Nat := b / 1 % 2 + b / 2 % 2 + b / 4 % 2 + b / 8 % 2 + b / 16 % 2 + b / 32 % 2 + b / 64 % 2 + b / 128 % 2
theorem fb_all : ∀ b, b < 256 → fb3 (fb2 (fb1 b)) = pb8 b ∧ pb8 b ≤ 8 ∧ fb2 (fb1 b) ≤ 68 ∧ fb2 (fb1 b) % 16 ≤ 4 ∧ (b / 2 &&& 85) ≤ b := by decide +kernel
theorem fb_a1 : ∀ a, a < 128 → ∀ c, c < 2 → ((a + 128 * c) &&& 85) = (a &&& 85) := by decide +kernel
theorem fb_a2 : ∀ a, a < 64 → ∀ c, c < 4 → ((a + 64 * c) &&& 51) = (a &&& 51) := by decide +kernel
theorem fb_a3 : ∀ a, a < 73 → ∀ c, c < 5 → ((a + 16 * c) &&& 15) = (a &&& 15) := by decide +kernel
theorem bs_1 {b0 b1 b2 : Nat} (h0 : b0 < 256) (h1 : b1 < 256) (h2 : b2 < 256) : (b0 + 256 * b1 + 65536 * b2) - ((b0 + 256 * b1 + 65536 * b2) / 2 &&& 1431655765) = fb1 b0 + 256 * fb1 b1 + 65536 * fb1 b2 := by
  have e := and_b3 (x := (b0 + 256 * b1 + 65536 * b2) / 2) (c := 85) (by decide) (by omega)
  rw [show 85 + 256 * (85 + 256 * (85 + 256 * 85)) = 1431655765 from rfl] at e
  rw [e, show (b0 + 256 * b1 + 65536 * b2) / 2 % 256 = b0 / 2 + 128 * (b1 % 2) by omega, show (b0 + 256 * b1 + 65536 * b2) / 2 / 256 % 256 = b1 / 2 + 128 * (b2 % 2) by omega, show (b0 + 256 * b1 + 65536 * b2) / 2 / 65536 = b2 / 2 by omega, fb_a1 _ (by omega) _ (by omega), fb_a1 _ (by omega) _ (by omega)]
  have g0 := (fb_all b0 h0).2.2.2.2
  have g1 := (fb_all b1 h1).2.2.2.2
  have g2 := (fb_all b2 h2).2.2.2.2
  unfold fb1
  omega
theorem bs_2 {b0 b1 b2 : Nat} (h0 : b0 < 256) (h1 : b1 < 256) (h2 : b2 < 256) : ((b0 + 256 * b1 + 65536 * b2) &&& 858993459) + ((b0 + 256 * b1 + 65536 * b2) / 4 &&& 858993459) = fb2 b0 + 256 * fb2 b1 + 65536 * fb2 b2 := by
  have e := and_b3 (x := b0 + 256 * b1 + 65536 * b2) (c := 51) (by decide) (by omega)
  have e4 := and_b3 (x := (b0 + 256 * b1 + 65536 * b2) / 4) (c := 51) (by decide) (by omega)
  rw [show 51 + 256 * (51 + 256 * (51 + 256 * 51)) = 858993459 from rfl] at e e4
  rw [e, e4, show (b0 + 256 * b1 + 65536 * b2) / 4 % 256 = b0 / 4 + 64 * (b1 % 4) by omega, show (b0 + 256 * b1 + 65536 * b2) / 4 / 256 % 256 = b1 / 4 + 64 * (b2 % 4) by omega, show (b0 + 256 * b1 + 65536 * b2) / 4 / 65536 = b2 / 4 by omega, fb_a2 _ (by omega) _ (by omega), fb_a2 _ (by omega) _ (by omega), show (b0 + 256 * b1 + 65536 * b2) % 256 = b0 by omega, show (b0 + 256 * b1 + 65536 * b2) / 256 % 256 = b1 by omega, show (b0 + 256 * b1 + 65536 * b2) / 65536 = b2 by omega]
  unfold fb2
  omega
theorem dig3 {x p q r : Nat} (hp : p < 256) (hq : q < 256) (h : x = p + 256 * q + 65536 * r) : x % 256 = p ∧ x / 256 % 256 = q ∧ x / 65536 = r := by omega
theorem bs_3 {b0 b1 b2 : Nat} (h0 : b0 ≤ 68 ∧ b0 % 16 ≤ 4) (h1 : b1 ≤ 68 ∧ b1 % 16 ≤ 4) (h2 : b2 ≤ 68 ∧ b2 % 16 ≤ 4) : ((b0 + 256 * b1 + 65536 * b2) + (b0 + 256 * b1 + 65536 * b2) / 16 &&& 252645135) = fb3 b0 + 256 * fb3 b1 + 65536 * fb3 b2 := by
  have e := and_b3 (x := (b0 + 256 * b1 + 65536 * b2) + (b0 + 256 * b1 + 65536 * b2) / 16) (c := 15) (by decide) (by omega)
  rw [show 15 + 256 * (15 + 256 * (15 + 256 * 15)) = 252645135 from rfl] at e
  have h16 : (b0 + 256 * b1 + 65536 * b2) / 16 = b0 / 16 + 16 * b1 + 4096 * b2 := by omega
  have hS : (b0 + 256 * b1 + 65536 * b2) + (b0 + 256 * b1 + 65536 * b2) / 16 = ((b0 + b0 / 16) + 16 * (b1 % 16)) + 256 * ((b1 + b1 / 16) + 16 * (b2 % 16)) + 65536 * (b2 + b2 / 16) := by omega
  have k0 : (b0 + b0 / 16) + 16 * (b1 % 16) < 256 := by omega
  have k1 : (b1 + b1 / 16) + 16 * (b2 % 16) < 256 := by omega
  obtain ⟨x0, x1, x2⟩ := dig3 k0 k1 hS
  rw [e, x0, x1, x2, fb_a3 _ (by omega) _ (by omega), fb_a3 _ (by omega) _ (by omega)]
  rfl
theorem fb1_lt {b : Nat} (h : b < 256) : fb1 b < 256 := by unfold fb1; omega
theorem pop_24 {b0 b1 b2 : Nat} (h0 : b0 < 256) (h1 : b1 < 256) (h2 : b2 < 256) : popN 24 (b0 + 256 * b1 + 65536 * b2) = pb8 b0 + pb8 b1 + pb8 b2 := by
  have k : ∀ m : Nat, popN 24 m = m / 1 % 2 + m / 2 % 2 + m / 4 % 2 + m / 8 % 2 + m / 16 % 2 + m / 32 % 2 + m / 64 % 2 + m / 128 % 2 + m / 256 % 2 + m / 512 % 2 + m / 1024 % 2 + m / 2048 % 2 + m / 4096 % 2 + m / 8192 % 2 + m / 16384 % 2 + m / 32768 % 2 + m / 65536 % 2 + m / 131072 % 2 + m / 262144 % 2 + m / 524288 % 2 + m / 1048576 % 2 + m / 2097152 % 2 + m / 4194304 % 2 + m / 8388608 % 2 := fun m => by
    show 0 + _ + _ + _ + _ + _ + _ + _ + _ + _ + _ + _ + _ + _ + _ + _ + _ + _ + _ + _ + _ + _ + _ + _ + _ = _
    rw [Nat.zero_add]
  rw [k]
  generalize hm : b0 + 256 * b1 + 65536 * b2 = m
  unfold pb8
  rw [show m / 1 % 2 = b0 / 1 % 2 by omega, show m / 2 % 2 = b0 / 2 % 2 by omega, show m / 4 % 2 = b0 / 4 % 2 by omega, show m / 8 % 2 = b0 / 8 % 2 by omega, show m / 16 % 2 = b0 / 16 % 2 by omega, show m / 32 % 2 = b0 / 32 % 2 by omega, show m / 64 % 2 = b0 / 64 % 2 by omega, show m / 128 % 2 = b0 / 128 % 2 by omega]
  rw [show m / 256 % 2 = b1 / 1 % 2 by omega, show m / 512 % 2 = b1 / 2 % 2 by omega, show m / 1024 % 2 = b1 / 4 % 2 by omega, show m / 2048 % 2 = b1 / 8 % 2 by omega, show m / 4096 % 2 = b1 / 16 % 2 by omega, show m / 8192 % 2 = b1 / 32 % 2 by omega, show m / 16384 % 2 = b1 / 64 % 2 by omega, show m / 32768 % 2 = b1 / 128 % 2 by omega]
  rw [show m / 65536 % 2 = b2 / 1 % 2 by omega, show m / 131072 % 2 = b2 / 2 % 2 by omega, show m / 262144 % 2 = b2 / 4 % 2 by omega, show m / 524288 % 2 = b2 / 8 % 2 by omega, show m / 1048576 % 2 = b2 / 16 % 2 by omega, show m / 2097152 % 2 = b2 / 32 % 2 by omega, show m / 4194304 % 2 = b2 / 64 % 2 by omega, show m / 8388608 % 2 = b2 / 128 % 2 by omega]
  omega
/-- the way of the method -/
theorem bitc {m s1 s2 s3 s4 s5 : Nat} (hm : m < 16777216) (e1 : s1 = m - (m / 2 &&& 1431655765)) (e2 : s2 = (s1 &&& 858993459) + (s1 / 4 &&& 858993459)) (e3 : s3 = (s2 + s2 / 16 &&& 252645135)) (e4 : s4 = s3 + s3 / 256) (e5 : s5 = s4 + s4 / 65536) : (s5 &&& 63) = popN 24 m := by
  have h0 : m % 256 < 256 := Nat.mod_lt _ (by decide)
  have h1 : m / 256 % 256 < 256 := Nat.mod_lt _ (by decide)
  have h2 : m / 65536 < 256 := by omega
  have em : m = m % 256 + 256 * (m / 256 % 256) + 65536 * (m / 65536) := by omega
  generalize m % 256 = b0 at *
  generalize m / 256 % 256 = b1 at *
  generalize m / 65536 = b2 at *
  subst em
  rw [bs_1 h0 h1 h2] at e1
  subst e1
  rw [bs_2 (fb1_lt h0) (fb1_lt h1) (fb1_lt h2)] at e2
  subst e2
  obtain ⟨g0, g0', g0a, g0b, -⟩ := fb_all b0 h0
  obtain ⟨g1, g1', g1a, g1b, -⟩ := fb_all b1 h1
  obtain ⟨g2, g2', g2a, g2b, -⟩ := fb_all b2 h2
  rw [bs_3 ⟨g0a, g0b⟩ ⟨g1a, g1b⟩ ⟨g2a, g2b⟩, g0, g1, g2] at e3
  clear g0 g1 g2 g0a g0b g1a g1b g2a g2b hm
  rw [pop_24 h0 h1 h2]
  have e63 := Nat.and_two_pow_sub_one_eq_mod s5 6
  rw [show 2 ^ 6 - 1 = 63 from rfl] at e63
  rw [e63]
  have j3 : s3 / 256 = pb8 b1 + 256 * pb8 b2 := by omega
  have j4 : s4 / 65536 = pb8 b2 := by omega
  omega
theorem w_ucnt : ∀ p : Nat, p < 31 → (((Int32.ofInt (p : Int)).toUInt32 &&& Int32.toUInt32 31).toBitVec % 32).toNat = p := by decide +kernel
theorem w_ushr {a p : Nat} (ha : a < 2 ^ 31) (hp : p < 31) : (((Int32.ofInt (a : Int)).toUInt32 >>> ((Int32.ofInt (p : Int)).toUInt32 &&& Int32.toUInt32 31)).toInt32).toInt = ((a / 2 ^ p : Nat) : Int) := by
  rw [w_of a, pk_ushrN (by omega) _ p (w_ucnt p hp), w_I (Nat.lt_of_le_of_lt (Nat.div_le_self _ _) ha)]
section BITC
variable {Ls N k pc n n' nn b c t a q kd w d p X T : Nat} {L0 : mLs} {st r as : List mV} {h h' : mH} {σ σ' σ'' : Sg} {post : tP} {x y z x' y' i i' s v m u lv : Int} {e : mE}
theorem s_328 {m : Nat} (hm : m < 16777216) (K : post (.inl (some (mI (popN 24 m : Int)))) σ) : Tr Ls N 328 0 [some (mI (m : Int))] [] σ post := by
  obtain ⟨s1, e1⟩ : ∃ s1, s1 = m - (m / 2 &&& 1431655765) := ⟨_, rfl⟩
  obtain ⟨s2, e2⟩ : ∃ s2, s2 = (s1 &&& 858993459) + (s1 / 4 &&& 858993459) := ⟨_, rfl⟩
  obtain ⟨s3, e3⟩ : ∃ s3, s3 = (s2 + s2 / 16 &&& 252645135) := ⟨_, rfl⟩
  obtain ⟨s4, e4⟩ : ∃ s4, s4 = s3 + s3 / 256 := ⟨_, rfl⟩
  obtain ⟨s5, e5⟩ : ∃ s5, s5 = s4 + s4 / 65536 := ⟨_, rfl⟩
  have e6 := bitc hm e1 e2 e3 e4 e5
  have l1 : (m / 2 &&& 1431655765) ≤ m / 2 := Nat.and_le_left
  have l2 : (s1 &&& 858993459) ≤ s1 := Nat.and_le_left
  have l3 : (s1 / 4 &&& 858993459) ≤ s1 / 4 := Nat.and_le_left
  have l4 : (s2 + s2 / 16 &&& 252645135) ≤ s2 + s2 / 16 := Nat.and_le_left
  iterate 4 (refine tr_mv rfl (fun _ => rfl) ?_)
  refine tr_top (w_ushr (a := m) (p := 1) (by omega) (by decide)) ?_
  iterate 2 (refine tr_mv rfl (fun _ => rfl) ?_)
  refine tr_top (w_and (a := m / 2) (b := 1431655765) (by omega) (by decide)) ?_
  iterate 1 (refine tr_mv rfl (fun _ => rfl) ?_)
  refine tr_top (y := (s1 : Int)) (by omega) ?_
  iterate 4 (refine tr_mv rfl (fun _ => rfl) ?_)
  refine tr_top (w_and (a := s1) (b := 858993459) (by omega) (by decide)) ?_
  iterate 3 (refine tr_mv rfl (fun _ => rfl) ?_)
  refine tr_top (w_ushr (a := s1) (p := 2) (by omega) (by decide)) ?_
  iterate 2 (refine tr_mv rfl (fun _ => rfl) ?_)
  refine tr_top (w_and (a := s1 / 4) (b := 858993459) (by omega) (by decide)) ?_
  iterate 1 (refine tr_mv rfl (fun _ => rfl) ?_)
  refine tr_top (y := (s2 : Int)) (by omega) ?_
  iterate 5 (refine tr_mv rfl (fun _ => rfl) ?_)
  refine tr_top (w_ushr (a := s2) (p := 4) (by omega) (by decide)) ?_
  iterate 1 (refine tr_mv rfl (fun _ => rfl) ?_)
  refine tr_top (y := ((s2 + s2 / 16 : Nat) : Int)) (by omega) ?_
  iterate 2 (refine tr_mv rfl (fun _ => rfl) ?_)
  refine tr_top (w_and (a := s2 + s2 / 16) (b := 252645135) (by omega) (by decide)) ?_
  rw [← e3]
  iterate 5 (refine tr_mv rfl (fun _ => rfl) ?_)
  refine tr_top (w_ushr (a := s3) (p := 8) (by omega) (by decide)) ?_
  iterate 1 (refine tr_mv rfl (fun _ => rfl) ?_)
  refine tr_top (y := (s4 : Int)) (by omega) ?_
  iterate 5 (refine tr_mv rfl (fun _ => rfl) ?_)
  refine tr_top (w_ushr (a := s4) (p := 16) (by omega) (by decide)) ?_
  iterate 1 (refine tr_mv rfl (fun _ => rfl) ?_)
  refine tr_top (y := (s5 : Int)) (by omega) ?_
  iterate 4 (refine tr_mv rfl (fun _ => rfl) ?_)
  refine tr_top (w_and (a := s5) (b := 63) (by omega) (by decide)) ?_
  rw [e6]
  exact tr_ri rfl rfl K
theorem s_69 (ht : isE t) {m : Nat} (hs : σ.2 t 8 = (m : Int)) (hm : m < 16777216) (K : post (.inl (some (mI (popN 24 m : Int)))) σ) : Tr Ls N 69 0 [some (mP (some t))] [] σ post := by
  iterate 1 (refine tr_mv rfl (fun _ => rfl) ?_)
  refine tr_gi rfl (by decide) (E_O ht) (by decide) (E_c ht) (E_n ht).2.2.2.2.2.2 ?_
  rw [hs]
  refine tr_stat rfl rfl rfl (s_328 hm ?_)
  exact tr_ri rfl rfl K
end BITC
