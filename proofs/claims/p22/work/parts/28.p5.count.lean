/-! pure: how many; the piece on a square; whether looking ahead is allowed -/
def npc (x : Nat) : Nat :=
  let a := x - ((x >>> 1) &&& 1431655765)
  let b := (a &&& 858993459) + ((a >>> 2) &&& 858993459)
  let c := (b + (b >>> 4)) &&& 252645135
  let d := c + (c >>> 8)
  (d + (d >>> 16)) &&& 63
def pcn (x : Nat) : Nat → Nat
  | 0 => 0
  | k + 1 => pcn x k + (x.testBit k).toNat
def npB (a : Nat) : Bool := allN (fun b => Nat.beq (npc (256 * a + b)) (pcn b 8 + pcn a 8)) 256
set_option maxRecDepth 100000 in
theorem npc0 : allN npB 64 = true := by decide +kernel
set_option maxRecDepth 100000 in
theorem npc1 : allN (fun a => npB (64 + a)) 64 = true := by decide +kernel
set_option maxRecDepth 100000 in
theorem npc2 : allN (fun a => npB (128 + a)) 64 = true := by decide +kernel
set_option maxRecDepth 100000 in
theorem npc3 : allN (fun a => npB (192 + a)) 64 = true := by decide +kernel
theorem npB_ok {a : Nat} (ha : a < 256) : npB a = true := by
  rcases (by omega : a < 64 ∨ (64 ≤ a ∧ a < 128) ∨ (128 ≤ a ∧ a < 192) ∨ 192 ≤ a) with h | h | h | h
  · exact allN_iff.mp npc0 a h
  · have := allN_iff.mp npc1 (a - 64) (by omega)
    rwa [show 64 + (a - 64) = a by omega] at this
  · have := allN_iff.mp npc2 (a - 128) (by omega)
    rwa [show 128 + (a - 128) = a by omega] at this
  · have := allN_iff.mp npc3 (a - 192) (by omega)
    rwa [show 192 + (a - 192) = a by omega] at this
theorem pcn_m (x : Nat) : ∀ k, k ≤ 8 → pcn (x % 256) k = pcn x k
  | 0, _ => rfl
  | k + 1, h => by
    rw [pcn, pcn, pcn_m x k (by omega), show (256 : Nat) = 2 ^ 8 from rfl, Nat.testBit_mod_two_pow, decide_eq_true (show k < 8 by omega), Bool.true_and]
theorem pcn_d (x : Nat) : ∀ k, pcn x (8 + k) = pcn x 8 + pcn (x / 256) k
  | 0 => rfl
  | k + 1 => by
    have e : (x / 256).testBit k = x.testBit (8 + k) := by rw [show (256 : Nat) = 2 ^ 8 from rfl, Nat.testBit_div_two_pow, Nat.add_comm]
    show pcn x (8 + k) + (x.testBit (8 + k)).toNat = pcn x 8 + (pcn (x / 256) k + ((x / 256).testBit k).toNat)
    rw [pcn_d x k, e, Nat.add_assoc]
theorem npc_ok {x : Nat} (hx : x < 65536) : npc x = pcn x 16 := by
  have h := allN_iff.mp (npB_ok (a := x / 256) (by omega)) (x % 256) (by omega)
  have h := Nat.eq_of_beq_eq_true h
  rw [show 256 * (x / 256) + x % 256 = x by omega, pcn_m x 8 (Nat.le_refl 8)] at h
  rw [h]
  exact (pcn_d x 8).symm
