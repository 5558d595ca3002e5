/-! ===== how many bits are set ===== -/
def pcn : Nat → Nat → Nat
  | 0, _ => 0
  | k + 1, n => n % 2 + pcn k (n / 2)
theorem pcn_ct : ∀ (k n : Nat), fb_ct (fun i => n.testBit i) k = pcn k n
  | 0, _ => rfl
  | k + 1, n => by
    have h := fb_ct_split (fun i => n.testBit i) 1 k
    rw [show 1 + k = k + 1 by omega] at h
    rw [h]
    have e1 : fb_ct (fun i => n.testBit i) 1 = n % 2 := by
      show 0 + (if n.testBit 0 then 1 else 0) = n % 2
      rw [Nat.testBit_zero]
      have : n % 2 < 2 := Nat.mod_lt _ (by decide)
      by_cases q : n % 2 = 1
      · simp [q]
      · have : n % 2 = 0 := by omega
        simp [this]
    have e2 : fb_ct (fun i => n.testBit (1 + i)) k = fb_ct (fun i => (n / 2).testBit i) k := fb_ct_cong fun i _ => by
      rw [Nat.add_comm, Nat.testBit_succ]
    rw [e1]
    show n % 2 + fb_ct (fun i => n.testBit (1 + i)) k = n % 2 + pcn k (n / 2)
    rw [e2, pcn_ct k (n / 2)]
theorem pcn_0 : ∀ k, pcn k 0 = 0
  | 0 => rfl
  | k + 1 => by
    show 0 % 2 + pcn k (0 / 2) = 0
    rw [Nat.zero_div, pcn_0 k]
theorem pcn_le : ∀ k n, pcn k n ≤ k
  | 0, _ => Nat.le_refl _
  | k + 1, n => by
    have := pcn_le k (n / 2)
    show n % 2 + pcn k (n / 2) ≤ k + 1
    omega
/-- the lowest bit goes out -/
theorem pcn_low : ∀ (k n : Nat), 0 < n → n < 2 ^ k → pcn k (n &&& (n - 1)) + 1 = pcn k n
  | 0, n, h, h2 => by omega
  | k + 1, n, h, h2 => by
    have hd : (n &&& (n - 1)) / 2 = n / 2 &&& (n - 1) / 2 := Nat.and_div_two
    have hm := @Nat.and_mod_two_eq_one n (n - 1)
    have hl : (n &&& (n - 1)) % 2 < 2 := Nat.mod_lt _ (by decide)
    show (n &&& (n - 1)) % 2 + pcn k ((n &&& (n - 1)) / 2) + 1 = n % 2 + pcn k (n / 2)
    have h0 : (n &&& (n - 1)) % 2 = 0 := by
      refine Classical.byContradiction fun q => ?_
      have := hm.mp (by omega)
      omega
    rw [hd, h0]
    by_cases q : n % 2 = 1
    · have e : (n - 1) / 2 = n / 2 := by omega
      rw [e, Nat.and_self]
      omega
    · have e : (n - 1) / 2 = n / 2 - 1 := by omega
      rw [e]
      have h2' : 2 ^ (k + 1) = 2 * 2 ^ k := by rw [Nat.pow_succ]; omega
      have := pcn_low k (n / 2) (by omega) (by omega)
      omega
theorem and_lane {a b c d : Nat} (hb : b < 256) (hd : d < 256) : (256 * a + b) &&& (256 * c + d) = 256 * (a &&& c) + (b &&& d) := by
  have hbd : b &&& d < 2 ^ 8 := Nat.and_lt_two_pow _ hd
  apply Nat.eq_of_testBit_eq
  intro i
  rw [Nat.testBit_and, show (256 : Nat) = 2 ^ 8 from rfl, Nat.testBit_two_pow_mul_add a hb, Nat.testBit_two_pow_mul_add c hd, Nat.testBit_two_pow_mul_add (a &&& c) hbd]
  by_cases q : i < 8
  · simp only [if_pos q, Nat.testBit_and]
  · simp only [if_neg q, Nat.testBit_and]
def pM (d : Nat) : Nat → Nat
  | 0 => 0
  | k + 1 => 256 * pM d k + d
def p1 (k n : Nat) : Nat := n - ((n / 2) &&& pM 85 k)
def p2 (k n : Nat) : Nat := (n &&& pM 51 k) + ((n / 4) &&& pM 51 k)
def p3 (k n : Nat) : Nat := (n + n / 16) &&& pM 15 k
def l1 (l : Nat) : Nat := l - ((l / 2) &&& 85)
def l2 (l : Nat) : Nat := (l &&& 51) + ((l / 4) &&& 51)
def l3 (l : Nat) : Nat := (l + l / 16) &&& 15
theorem lc1 : ∀ l, l < 256 → ∀ b, b < 2 → (128 * b + l / 2) &&& 85 = (l / 2) &&& 85 := by decide +kernel
theorem lc1b : ∀ l, l < 256 → (l / 2) &&& 85 ≤ l := by decide +kernel
theorem lc2 : ∀ l, l < 256 → ∀ b, b < 4 → (64 * b + l / 4) &&& 51 = (l / 4) &&& 51 := by decide +kernel
theorem lc3 : ∀ l, l < 137 → l &&& 15 = l % 16 := by decide +kernel
theorem lc4 : ∀ l, l < 256 → l2 (l1 l) ≤ 68 ∧ l2 (l1 l) % 16 ≤ 4 ∧ l3 (l2 (l1 l)) = pcn 8 l := by decide +kernel
theorem p1_s (k h l : Nat) (hl : l < 256) : p1 (k + 1) (256 * h + l) = 256 * p1 k h + l1 l := by
  have e : (256 * h + l) / 2 = 256 * (h / 2) + (128 * (h % 2) + l / 2) := by omega
  have hb : h % 2 < 2 := Nat.mod_lt _ (by decide)
  unfold p1 l1
  rw [e, show pM 85 (k + 1) = 256 * pM 85 k + 85 from rfl, and_lane (by omega) (by decide), lc1 l hl _ hb]
  have h1 : (h / 2) &&& pM 85 k ≤ h := Nat.le_trans Nat.and_le_left (Nat.div_le_self _ _)
  have h2 := lc1b l hl
  omega
theorem p2_s (k h l : Nat) (hl : l < 256) : p2 (k + 1) (256 * h + l) = 256 * p2 k h + l2 l := by
  have e : (256 * h + l) / 4 = 256 * (h / 4) + (64 * (h % 4) + l / 4) := by omega
  have hb : h % 4 < 4 := Nat.mod_lt _ (by decide)
  unfold p2 l2
  rw [e, show pM 51 (k + 1) = 256 * pM 51 k + 51 from rfl, and_lane hl (by decide), and_lane (by omega) (by decide), lc2 l hl _ hb]
  omega
theorem l1_lt {l : Nat} (hl : l < 256) : l1 l < 256 := by unfold l1; omega
theorem p12_s (k h l : Nat) (hl : l < 256) : p2 (k + 1) (p1 (k + 1) (256 * h + l)) = 256 * p2 k (p1 k h) + l2 (l1 l) := by
  rw [p1_s k h l hl, p2_s k _ _ (l1_lt hl)]
theorem p12_16 : ∀ (k n : Nat), p2 k (p1 k n) % 16 ≤ 4
  | 0, n => by
    have e : p2 0 (p1 0 n) = 0 := by
      unfold p2
      rw [show pM 51 0 = 0 from rfl, Nat.and_zero, Nat.and_zero]
    rw [e]; decide
  | k + 1, n => by
    have := p12_s k (n / 256) (n % 256) (Nat.mod_lt _ (by decide))
    rw [show 256 * (n / 256) + n % 256 = n by omega] at this
    rw [this]
    have := (lc4 (n % 256) (Nat.mod_lt _ (by decide))).2.1
    omega
def pF (k n : Nat) : Nat := p3 k (p2 k (p1 k n))
theorem pF_s (k h l : Nat) (hl : l < 256) : pF (k + 1) (256 * h + l) = 256 * pF k h + pcn 8 l := by
  unfold pF
  rw [p12_s k h l hl]
  have h16 := p12_16 k h
  obtain ⟨c1, c2, c3⟩ := lc4 l hl
  rw [← c3]
  generalize p2 k (p1 k h) = H at *
  generalize l2 (l1 l) = L at *
  unfold p3 l3
  have e : 256 * H + L + (256 * H + L) / 16 = 256 * (H + H / 16) + (L + 16 * (H % 16) + L / 16) := by omega
  rw [e, show pM 15 (k + 1) = 256 * pM 15 k + 15 from rfl, and_lane (by omega) (by decide), lc3 _ (by omega), lc3 _ (by omega)]
  omega
def pS (n : Nat) : Nat → Nat
  | 0 => 0
  | k + 1 => 256 * pS (n / 256) k + pcn 8 (n % 256)
theorem pF_S : ∀ k n, pF k n = pS n k
  | 0, n => by
    unfold pF p3
    rw [show pM 15 0 = 0 from rfl, Nat.and_zero]; rfl
  | k + 1, n => by
    have := pF_s k (n / 256) (n % 256) (Nat.mod_lt _ (by decide))
    rw [show 256 * (n / 256) + n % 256 = n by omega] at this
    rw [this, pF_S k (n / 256)]; rfl
theorem pcn_add : ∀ (a b n : Nat), pcn (a + b) n = pcn a (n % 2 ^ a) + pcn b (n / 2 ^ a)
  | 0, b, n => by rw [Nat.zero_add, Nat.pow_zero, Nat.div_one]; exact (Nat.zero_add _).symm
  | a + 1, b, n => by
    rw [show a + 1 + b = (a + b) + 1 by omega]
    show n % 2 + pcn (a + b) (n / 2) = (n % 2 ^ (a + 1)) % 2 + pcn a (n % 2 ^ (a + 1) / 2) + pcn b (n / 2 ^ (a + 1))
    rw [pcn_add a b (n / 2)]
    have hp : 2 ^ (a + 1) = 2 * 2 ^ a := by rw [Nat.pow_succ]; omega
    have e1 : n % 2 ^ (a + 1) % 2 = n % 2 := by rw [hp]; exact Nat.mod_mul_right_mod n 2 (2 ^ a)
    have e2 : n % 2 ^ (a + 1) / 2 = n / 2 % 2 ^ a := by rw [hp]; exact Nat.mod_mul_right_div_self n 2 (2 ^ a)
    have e3 : n / 2 / 2 ^ a = n / 2 ^ (a + 1) := by rw [hp, Nat.div_div_eq_div_mul]
    rw [e1, e2, e3]
    omega
theorem pcn_8 (k n : Nat) : pcn (k + 8) n = pcn 8 (n % 256) + pcn k (n / 256) := by
  rw [Nat.add_comm k 8]
  exact pcn_add 8 k n
theorem dv_256 (x y : Nat) (h : y < 256) : (256 * x + y) / 256 = x := by omega
theorem pS_lin (a0 a1 a2 a3 a4 a5 a6 a7 : Nat) (b0 : a0 ≤ 8) (b1 : a1 ≤ 8) (b2 : a2 ≤ 8) (b3 : a3 ≤ 8) (b4 : a4 ≤ 8) (b5 : a5 ≤ 8) (b6 : a6 ≤ 8) (b7 : a7 ≤ 8) (S : Nat) (hS : S = 256 * (256 * (256 * (256 * (256 * (256 * (256 * a7 + a6) + a5) + a4) + a3) + a2) + a1) + a0) :
    (S + S / 256 + (S + S / 256) / 65536 + (S + S / 256 + (S + S / 256) / 65536) / 4294967296) % 128 = a0 + (a1 + (a2 + (a3 + (a4 + (a5 + (a6 + a7)))))) := by
  have s1 : S / 256 = 256 * (256 * (256 * (256 * (256 * (256 * a7 + a6) + a5) + a4) + a3) + a2) + a1 := by
    rw [hS]; exact dv_256 _ _ (by omega)
  generalize S / 256 = T at *
  have eV : S + T = 256 * (256 * (256 * (256 * (256 * (256 * (256 * a7 + (a6 + a7)) + (a5 + a6)) + (a4 + a5)) + (a3 + a4)) + (a2 + a3)) + (a1 + a2)) + (a0 + a1) := by
    rw [hS, s1]; omega
  clear s1 hS
  generalize S + T = V at *
  have s2 : V / 65536 = 256 * (256 * (256 * (256 * (256 * a7 + (a6 + a7)) + (a5 + a6)) + (a4 + a5)) + (a3 + a4)) + (a2 + a3) := by
    rw [eV, show (65536 : Nat) = 256 * 256 from rfl, ← Nat.div_div_eq_div_mul, dv_256 _ _ (by omega), dv_256 _ _ (by omega)]
  generalize V / 65536 = U at *
  have eW : V + U = 256 * (256 * (256 * (256 * (256 * (256 * (256 * a7 + (a6 + a7)) + (a5 + a6 + a7)) + (a4 + a5 + (a6 + a7))) + (a3 + a4 + (a5 + a6))) + (a2 + a3 + (a4 + a5))) + (a1 + a2 + (a3 + a4))) + (a0 + a1 + (a2 + a3)) := by
    rw [eV, s2]; omega
  clear eV s2
  generalize V + U = W at *
  have s3 : W / 4294967296 = 256 * (256 * (256 * a7 + (a6 + a7)) + (a5 + a6 + a7)) + (a4 + a5 + (a6 + a7)) := by
    rw [eW, show (4294967296 : Nat) = 256 * 256 * 256 * 256 from rfl, ← Nat.div_div_eq_div_mul, ← Nat.div_div_eq_div_mul, ← Nat.div_div_eq_div_mul, dv_256 _ _ (by omega), dv_256 _ _ (by omega), dv_256 _ _ (by omega), dv_256 _ _ (by omega)]
  rw [s3, eW]
  omega
theorem pS_end (n : Nat) : (pS n 8 + pS n 8 / 256 + (pS n 8 + pS n 8 / 256) / 65536 + (pS n 8 + pS n 8 / 256 + (pS n 8 + pS n 8 / 256) / 65536) / 4294967296) % 128 = pcn 64 n := by
  have p8 : ∀ m, pcn 8 m = pcn 8 (m % 256) := fun m => pcn_8 0 m
  have e64 : pcn 64 n = pcn 8 (n % 256) + (pcn 8 (n / 256 % 256) + (pcn 8 (n / 256 / 256 % 256) + (pcn 8 (n / 256 / 256 / 256 % 256) + (pcn 8 (n / 256 / 256 / 256 / 256 % 256) + (pcn 8 (n / 256 / 256 / 256 / 256 / 256 % 256) + (pcn 8 (n / 256 / 256 / 256 / 256 / 256 / 256 % 256) + pcn 8 (n / 256 / 256 / 256 / 256 / 256 / 256 / 256 % 256))))))) := by
    rw [pcn_8 56, pcn_8 48, pcn_8 40, pcn_8 32, pcn_8 24, pcn_8 16, pcn_8 8, p8 (n / 256 / 256 / 256 / 256 / 256 / 256 / 256)]
  rw [e64]
  refine pS_lin _ _ _ _ _ _ _ _ (pcn_le 8 _) (pcn_le 8 _) (pcn_le 8 _) (pcn_le 8 _) (pcn_le 8 _) (pcn_le 8 _) (pcn_le 8 _) (pcn_le 8 _) (pS n 8) ?_
  show 256 * (256 * (256 * (256 * (256 * (256 * (256 * (256 * 0 + pcn 8 (n / 256 / 256 / 256 / 256 / 256 / 256 / 256 % 256)) + pcn 8 (n / 256 / 256 / 256 / 256 / 256 / 256 % 256)) + pcn 8 (n / 256 / 256 / 256 / 256 / 256 % 256)) + pcn 8 (n / 256 / 256 / 256 / 256 % 256)) + pcn 8 (n / 256 / 256 / 256 % 256)) + pcn 8 (n / 256 / 256 % 256)) + pcn 8 (n / 256 % 256)) + pcn 8 (n % 256) = _
  rw [Nat.mul_zero, Nat.zero_add]
theorem pM_lt (d : Nat) (hd : d < 256) : ∀ k, pM d k < 256 ^ k
  | 0 => by show 0 < 1; decide
  | k + 1 => by
    have := pM_lt d hd k
    rw [Nat.pow_succ]
    show 256 * pM d k + d < _
    omega
theorem nx_and (a b : Nat) : nI a &&& nI b = nI (a &&& b) := Int32.toBitVec_inj.mp (by
  rw [Int32.toBitVec_and]
  show BitVec.ofNat 32 a &&& BitVec.ofNat 32 b = BitVec.ofNat 32 (a &&& b)
  exact (BitVec.ofNat_and ..).symm)
/-- bits of a long, by the class's counting -/
theorem x_bits (x : Int64) : pJ13_bitCount_95d88 x = nI (fb_ct (tb x) 64) := by
  obtain ⟨n, hn, rfl⟩ := wb_of x
  have ect : fb_ct (tb (lN n)) 64 = pcn 64 n := by
    rw [← pcn_ct]
    exact fb_ct_cong fun i hi => by rw [tb_lN]; simp [hi]
  rw [ect, ← pS_end, ← pF_S 8 n]
  have m5 : (6148914691236517205 : Int64) = lN (pM 85 8) := by decide +kernel
  have m3 : (3689348814741910323 : Int64) = lN (pM 51 8) := by decide +kernel
  have mf : (1085102592571150095 : Int64) = lN (pM 15 8) := by decide +kernel
  have b5 : pM 85 8 < 2 ^ 64 := by decide +kernel
  have b3 : pM 51 8 < 2 ^ 64 := by decide +kernel
  have bf : pM 15 8 < 2 ^ 60 := by decide +kernel
  have bt : pM 51 8 < 2 ^ 62 := by decide +kernel
  unfold pJ13_bitCount_95d88
  dsimp only
  rw [m5, m3, mf, show (1 : Int32) = nI 1 from rfl, wb_shr hn (by decide), wb_and (Nat.lt_of_le_of_lt (Nat.div_le_self _ _) hn) b5]
  have h1 : n / 2 ^ 1 &&& pM 85 8 ≤ n := Nat.le_trans Nat.and_le_left (Nat.div_le_self _ _)
  rw [lN_sub h1, show n - (n / 2 ^ 1 &&& pM 85 8) = p1 8 n from rfl]
  have hb1 : p1 8 n < 2 ^ 64 := by unfold p1; omega
  rw [show (2 : Int32) = nI 2 from rfl, wb_shr hb1 (by decide), wb_and hb1 b3, wb_and (Nat.lt_of_le_of_lt (Nat.div_le_self _ _) hb1) b3, lN_add, show (p1 8 n &&& pM 51 8) + (p1 8 n / 2 ^ 2 &&& pM 51 8) = p2 8 (p1 8 n) from rfl]
  have hb2 : p2 8 (p1 8 n) < 2 ^ 63 := by
    unfold p2
    have g1 : p1 8 n &&& pM 51 8 ≤ pM 51 8 := Nat.and_le_right
    have g2 : p1 8 n / 4 &&& pM 51 8 ≤ pM 51 8 := Nat.and_le_right
    omega
  have hb2' : p2 8 (p1 8 n) + p2 8 (p1 8 n) / 2 ^ 4 < 2 ^ 64 := by omega
  rw [show (4 : Int32) = nI 4 from rfl, wb_shr (by omega) (by decide), lN_add, wb_and hb2' (by omega), show (p2 8 (p1 8 n) + p2 8 (p1 8 n) / 2 ^ 4) &&& pM 15 8 = pF 8 n from rfl]
  have hb3 : pF 8 n < 2 ^ 60 := Nat.lt_of_le_of_lt (show pF 8 n ≤ pM 15 8 from Nat.and_le_right) bf
  generalize pF 8 n = S at *
  rw [show (8 : Int32) = nI 8 from rfl, wb_shr (by omega) (by decide), lN_add]
  have hb4 : S + S / 2 ^ 8 < 2 ^ 61 := by omega
  rw [show (16 : Int32) = nI 16 from rfl, wb_shr (by omega) (by decide), lN_add]
  have hb5 : S + S / 2 ^ 8 + (S + S / 2 ^ 8) / 2 ^ 16 < 2 ^ 62 := by omega
  rw [show (32 : Int32) = nI 32 from rfl, wb_shr (by omega) (by decide), lN_add, lN_i, show (127 : Int32) = nI 127 from rfl, nx_and]
  congr 1
  exact Nat.and_two_pow_sub_one_eq_mod _ 7
/-- bits of a long, by the reference's counting -/
theorem m_bits (x : Int64) (w : mm_S) : hh_c (sX4_bits x w) (fun q => q = (nI (fb_ct (tb x) 64), w)) := by
  unfold sX4_bits sX4_bits_0 sX4_bits_4
  refine hh_ms (fun s => ∃ (m : Nat) (y : Int64), s = (nI m, y, w) ∧ m + fb_ct (tb y) 64 = fb_ct (tb x) 64) (fun s => fb_ct (tb s.2.1) 64) ⟨0, x, rfl, Nat.zero_add _⟩ (Nat.lt_of_le_of_lt (fb_ct_le _ 64) (by decide)) ?_
  rintro s ⟨m, y, rfl, hm⟩
  unfold lX4_bits_4
  dsimp only
  refine hh_i (fun q => hh_v ?_) (fun q => hh_v ?_)
  · have q0 := (lgc_0 _ _).mp q
    have : fb_ct (tb y) 64 = 0 := fb_ct_zero.mpr fun i _ => by rw [q0, tb_0]
    show (nI m, w) = _
    rw [← hm, this, Nat.add_zero]
  · have y0 : y ≠ 0 := fun t => q ((lgc_0 _ _).mpr t)
    obtain ⟨n, hn, rfl⟩ := wb_of y
    have n0 : 0 < n := Nat.pos_of_ne_zero fun t => y0 (by rw [t]; rfl)
    have e1 : lN n &&& (lN n - 1) = lN (n &&& (n - 1)) := by
      rw [show (1 : Int64) = lN 1 from rfl, lN_sub n0, wb_and hn (by omega)]
    have c1 : ∀ k, fb_ct (tb (lN k)) 64 = pcn 64 k := fun k => by
      rw [← pcn_ct]
      exact fb_ct_cong fun i hi => by rw [tb_lN]; simp [hi]
    have := pcn_low 64 n n0 hn
    rw [c1] at hm
    rw [e1, nI_1]
    refine ⟨⟨m + 1, _, rfl, ?_⟩, ?_⟩
    · rw [c1]; omega
    · show fb_ct (tb (lN (n &&& (n - 1)))) 64 < fb_ct (tb (lN n)) 64
      rw [c1, c1]; omega
