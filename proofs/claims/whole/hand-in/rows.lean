section
theorem pk_tn {n : Nat} (h : n < 2 ^ 32) : (nI n).toBitVec.toNat = n := Nat.mod_eq_of_lt h
theorem pk_charN {q : Nat} (hq : q < 65536) : narrow .char (.int (nI q)) = .int (nI q) ∧ fits .char (.int (nI q)) = true := by
  constructor
  · have e : (nI q).toUInt32.toUInt16.toUInt32.toInt32 = nI q := by
      apply Int32.toBitVec_inj.mp
      apply BitVec.eq_of_toNat_eq
      show (nI q).toUInt32.toUInt16.toUInt32.toNat = q % 2 ^ 32
      rw [UInt16.toNat_toUInt32, UInt32.toNat_toUInt16, show (nI q).toUInt32.toNat = q % 2 ^ 32 from rfl]
      omega
    exact congrArg Value.int e
  · have a : (0 : Int32) ≤ nI q := nI_pos' (by omega)
    have b : nI q ≤ 65535 := nI_le (b := 65535) (by omega) (by decide)
    show (decide ((0 : Int32) ≤ nI q) && decide (nI q ≤ 65535)) = true
    rw [decide_eq_true a, decide_eq_true b]
    rfl
theorem pk_char (x : Int32) : (x.toUInt32 % 65536).toInt32 = nI (x.toBitVec.toNat % 65536) := by
  apply Int32.toBitVec_inj.mp
  apply BitVec.eq_of_toNat_eq
  rw [pk_tn (by omega)]
  show (x.toUInt32 % 65536).toNat = _
  rw [UInt32.toNat_mod]
  rfl
theorem pk_nc (x : Int32) : narrow .char (.int (x.toUInt32 % 65536).toInt32) = .int (x.toUInt32 % 65536).toInt32 := by
  rw [pk_char]
  exact (pk_charN (Nat.mod_lt _ (by decide))).1
theorem pk_fc (x : Int32) : fits .char (.int (x.toUInt32 % 65536).toInt32) = true := by
  rw [pk_char]
  exact (pk_charN (Nat.mod_lt _ (by decide))).2
/-- the two objects hold the same numerator, the same modulus and the same remainder -/
def i_Rel (_ : Nat) (u : SX) (v : SY) : Prop := u = v
theorem i_up {k : Nat} {u : SX} {v : SY} (h : i_Rel k u v) : i_Rel (k + 3) u v := h
theorem i_vc0 : wpX_init (fun u => wpY_init (fun v => i_Rel 0 u v)) := rfl
theorem fd_10 : ¬ (1 : Int32) = 0 := by decide
theorem fd_m1 : ¬ (-1 : Int32) = 0 := by decide
theorem fd_m2 : ¬ (-2 : Int32) = 0 := by decide
theorem fd_m3 : ¬ (-3 : Int32) = 0 := by decide
/-- the range check: true, and false -/
theorem fd_out {post : Int32 → Prop} {x : Int32} (h : x < 0 ∨ ¬ x ≤ 65535) (hp : post 1) : wpX_isOutOfRange post x := by
  unfold wpX_isOutOfRange
  by_cases h0 : x < 0
  · exact br_t h0 hp
  · exact br_f h0 (br_f (h.resolve_left h0) hp)
theorem fd_within {post : Int32 → Prop} {x : Int32} (h0 : ¬ x < 0) (h1 : x ≤ 65535) (hp : post 0) : wpX_isOutOfRange post x := by
  unfold wpX_isOutOfRange
  exact br_f h0 (br_t h1 hp)
/-- the judge's four answers -/
theorem fd_j1 {post : Int32 → Prop} {n m : Int32} (h : n < 0 ∨ ¬ n ≤ 65535) (hp : post (-1)) : wpX_judge post n m := by
  unfold wpX_judge
  refine fd_out h ?_
  exact br_f fd_10 hp
theorem fd_j1' {post : Int32 → Prop} {n m : Int32} (n0 : ¬ n < 0) (n1 : n ≤ 65535) (h : m < 0 ∨ ¬ m ≤ 65535) (hp : post (-1)) : wpX_judge post n m := by
  unfold wpX_judge
  refine fd_within n0 n1 ?_
  refine br_t rfl ?_
  refine fd_out h ?_
  exact br_f fd_10 hp
theorem fd_j2 {post : Int32 → Prop} {n m : Int32} (n0 : ¬ n < 0) (n1 : n ≤ 65535) (m0 : ¬ m < 0) (m1 : m ≤ 65535) (h : m = 0) (hp : post (-2)) : wpX_judge post n m := by
  unfold wpX_judge
  refine fd_within n0 n1 ?_
  refine br_t rfl ?_
  refine fd_within m0 m1 ?_
  exact br_t rfl (br_t h hp)
theorem fd_j3 {post : Int32 → Prop} {n m : Int32} (n0 : ¬ n < 0) (n1 : n ≤ 65535) (m0 : ¬ m < 0) (m1 : m ≤ 65535) (h : ¬ m = 0) (g : ¬ n ≤ m) (hp : post (-3)) : wpX_judge post n m := by
  unfold wpX_judge
  refine fd_within n0 n1 ?_
  refine br_t rfl ?_
  refine fd_within m0 m1 ?_
  exact br_t rfl (br_f h (br_f g hp))
theorem fd_j0 {post : Int32 → Prop} {n m : Int32} (n0 : ¬ n < 0) (n1 : n ≤ 65535) (m0 : ¬ m < 0) (m1 : m ≤ 65535) (h : ¬ m = 0) (g : n ≤ m) (hp : post 0) : wpX_judge post n m := by
  unfold wpX_judge
  refine fd_within n0 n1 ?_
  refine br_t rfl ?_
  refine fd_within m0 m1 ?_
  exact br_t rfl (br_f h (br_t g hp))
/-- setRatio of the class: refused with r, and accepted -/
theorem fd_ref {post : Int32 → SX → Prop} {a b c n m : Int32} (r : Int32) (hr : ¬ r = 0) (hj : ∀ q : Int32 → Prop, q r → wpX_judge q n m) (hp : post r (a, b, c)) : wpX_setRatio post (a, b, c) n m := by
  unfold wpX_setRatio
  dsimp only
  refine hj _ ?_
  exact br_f hr hp
theorem fd_acc {post : Int32 → SX → Prop} {a b c n m : Int32} (hj : ∀ q : Int32 → Prop, q 0 → wpX_judge q n m) (hp : post 0 ((n.toUInt32 % 65536).toInt32, (m.toUInt32 % 65536).toInt32, 0)) : wpX_setRatio post (a, b, c) n m := by
  unfold wpX_setRatio
  dsimp only
  refine hj _ ?_
  refine br_t rfl (nm_e ?_)
  refine ⟨pk_nc _, pk_fc _, nm_e ?_⟩
  exact ⟨pk_nc _, pk_fc _, hp⟩
theorem i_vc_setRatio {k : Nat} {u : SX} {v : SY} (I : i_Rel k u v) (hk : k + 3 ≤ 1536) (v1 : Int32) (v2 : Int32) : wpX_setRatio (fun r u' => wpY_setRatio (fun r' v' => r' = r ∧ i_Rel (k + 3) u' v') v v1 v2) u v1 v2 := by
  obtain ⟨a, b, c⟩ := u
  cases I
  by_cases n0 : v1 < 0
  · refine fd_ref (-1) fd_m1 (fun q hq => fd_j1 (Or.inl n0) hq) ?_
    unfold wpY_setRatio
    exact br_t n0 ⟨rfl, rfl⟩
  by_cases n1 : v1 ≤ 65535
  case neg =>
    refine fd_ref (-1) fd_m1 (fun q hq => fd_j1 (Or.inr n1) hq) ?_
    unfold wpY_setRatio
    exact br_f n0 (br_t (Int32.not_le.mp n1) ⟨rfl, rfl⟩)
  have n2 : ¬ 65535 < v1 := Int32.not_lt.mpr n1
  by_cases m0 : v2 < 0
  · refine fd_ref (-1) fd_m1 (fun q hq => fd_j1' n0 n1 (Or.inl m0) hq) ?_
    unfold wpY_setRatio
    exact br_f n0 (br_f n2 (br_t m0 ⟨rfl, rfl⟩))
  by_cases m1 : v2 ≤ 65535
  case neg =>
    refine fd_ref (-1) fd_m1 (fun q hq => fd_j1' n0 n1 (Or.inr m1) hq) ?_
    unfold wpY_setRatio
    exact br_f n0 (br_f n2 (br_f m0 (br_f m1 ⟨rfl, rfl⟩)))
  by_cases z : v2 = 0
  · refine fd_ref (-2) fd_m2 (fun q hq => fd_j2 n0 n1 m0 m1 z hq) ?_
    unfold wpY_setRatio
    exact br_f n0 (br_f n2 (br_f m0 (br_t m1 (br_t z ⟨rfl, rfl⟩))))
  by_cases g : v1 ≤ v2
  case neg =>
    refine fd_ref (-3) fd_m3 (fun q hq => fd_j3 n0 n1 m0 m1 z g hq) ?_
    unfold wpY_setRatio
    exact br_f n0 (br_f n2 (br_f m0 (br_t m1 (br_f z (br_f g ⟨rfl, rfl⟩)))))
  refine fd_acc (fun q hq => fd_j0 n0 n1 m0 m1 z g hq) ?_
  unfold wpY_setRatio
  dsimp only
  refine br_f n0 (br_f n2 (br_f m0 (br_t m1 (br_f z (br_t g (nm_e ?_))))))
  refine ⟨pk_nc _, pk_fc _, nm_e ?_⟩
  exact ⟨pk_nc _, pk_fc _, rfl, rfl⟩
/-- sum less modulus, and remainder less (modulus less numerator): one value -/
theorem fd_sub (a b c : Int32) : c - (b - a) = c + a - b := by grind
theorem i_vc_tick {k : Nat} {u : SX} {v : SY} (I : i_Rel k u v) (hk : k + 3 ≤ 1536) : wpX_tick (fun r u' => wpY_tick (fun r' v' => r' = r ∧ i_Rel (k + 3) u' v') v) u := by
  obtain ⟨a, b, c⟩ := u
  cases I
  unfold wpX_tick
  dsimp only
  refine nm_e ?_
  refine br_c (fun h => nm_e ?_) (fun h => nm_e ?_)
  · refine ⟨pk_nc _, pk_fc _, ?_⟩
    unfold wpY_tick
    dsimp only
    refine br_t h (nm_e ?_)
    exact ⟨pk_nc _, pk_fc _, rfl, rfl⟩
  · refine ⟨pk_nc _, pk_fc _, ?_⟩
    unfold wpY_tick
    dsimp only
    refine br_f h ?_
    rw [fd_sub]
    refine nm_e ?_
    exact ⟨pk_nc _, pk_fc _, rfl, rfl⟩
theorem i_vc_phase {k : Nat} {u : SX} {v : SY} (I : i_Rel k u v) (hk : k + 3 ≤ 1536) : wpX_phase (fun r => wpY_phase (fun r' => r' = r ∧ i_Rel (k + 3) u v) v) u := by
  obtain ⟨a, b, c⟩ := u
  cases I
  exact ⟨rfl, rfl⟩
end
