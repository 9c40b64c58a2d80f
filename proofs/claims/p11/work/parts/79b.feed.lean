/-! ===== feed: the same bytes in both tapes ===== -/
def dz_sh (f : Int32 → Int32 → Int32) (w x : Int) : Int := sx_b (fun x y => x &&& y) (sx_b f w x) 255
def dz_us : Int32 → Int32 → Int32 := fun x y => (x.toUInt32 >>> (y.toUInt32 &&& Int32.toUInt32 31)).toInt32
def dz_ss : Int32 → Int32 → Int32 := fun x y => x >>> (y &&& 31)
theorem dz_bv (v : BitVec 32) (s : Nat) (hs : s ≤ 24) : (v >>> s) &&& 255#32 = (v.sshiftRight s) &&& 255#32 := by
  apply BitVec.eq_of_getLsbD_eq
  intro i hi
  rw [BitVec.getLsbD_and, BitVec.getLsbD_and, BitVec.getLsbD_ushiftRight, BitVec.getLsbD_sshiftRight]
  by_cases h : i < 8
  · have h1 : s + i < 32 := by omega
    have h2 : ¬ 32 ≤ i := by omega
    simp [h1, h2]
  · have h255 : ∀ j, j < 32 → 8 ≤ j → (255#32).getLsbD j = false := by decide
    rw [h255 i hi (by omega), Bool.and_false, Bool.and_false]
theorem dz_byte {w x : Int} (hx : x = 24 ∨ x = 16 ∨ x = 8 ∨ x = 0) : dz_sh dz_us w x = dz_sh dz_ss w x := by
  unfold dz_sh sx_b
  rw [Int32.ofInt_toInt, Int32.ofInt_toInt]
  generalize Int32.ofInt w = W
  apply congrArg Int32.toInt
  apply Int32.toBitVec_inj.mp
  rcases hx with rfl | rfl | rfl | rfl
  · exact dz_bv W.toBitVec 24 (by decide)
  · exact dz_bv W.toBitVec 16 (by decide)
  · exact dz_bv W.toBitVec 8 (by decide)
  · exact dz_bv W.toBitVec 0 (by decide)
theorem w_tw {CALL : sx_Ca} {sL : Nat} {sx : Nat → Int32} {Q : Nat → sx_L → sx_S → Prop} {R : Int → sx_S → Prop} {s : sx_S} {a0 : Int} (hQ : Q 3 [(0, .inr (.inl 0)), (1, .inl a0), (2, .inl 24)] s) : sx_wp true sL sx eX11_takeWord CALL [(3, [0, 1, 2])] Q R 400 0 (sx_argsF 0 [.inr (.inl 0), .inl a0]) [] s := by
  repeat' (first | (with_reducible (rintro _ rfl)) | (with_reducible intro _) | (refine And.intro ?_ ?_) | (fail))
  all_goals (try dsimp only at *)
  all_goals (first | trivial | assumption | omega | skip)
theorem w_tw_3 {CALL : sx_Ca} {sL : Nat} {sx : Nat → Int32} {Q : Nat → sx_L → sx_S → Prop} {R : Int → sx_S → Prop} {s : sx_S} {a0 x2 : Int} (hI : cx_I s) (ra : -2147483648 ≤ a0 ∧ a0 ≤ 2147483647) (r2 : -8 ≤ x2 ∧ x2 ≤ 24) (hf : 0 ≤ x2 → s.1 0 1 < 240) (hK : x2 < 0 → R 0 s) (hQ : 0 ≤ x2 → ∀ v, v = dz_sh dz_us a0 x2 → (0 ≤ v ∧ v ≤ 255) → Q 3 [(0, .inr (.inl 0)), (1, .inl a0), (2, .inl (x2 - 8))] (sx_uf s.1 0 1 (s.1 0 1 + 1), sx_ua s.2.1 1 (s.1 0 1).toNat v, s.2.2)) : sx_wp true sL sx eX11_takeWord CALL [(3, [0, 1, 2])] Q R 400 3 [(0, .inr (.inl 0)), (1, .inl a0), (2, .inl x2)] [] s := by
  have h1 := hI.fld 0 1 (by decide) rfl
  have zzy : sx_w true (s.1 0 1 + 1) = s.1 0 1 + 1 := px_wid (by omega) (by omega)
  have zzx : sx_w true (x2 + -8) = x2 - 8 := by rw [px_wid (by omega) (by omega)]; omega
  rw [← zzy, ← zzx] at hQ
  have zzI : ∀ v : Int, 0 ≤ v → v ≤ 255 → cx_I (s.1, sx_ua s.2.1 1 (s.1 0 1).toNat v, s.2.2) := fun v a b => cx_I_ua rfl rfl hI a b
  by_cases hx : 0 ≤ x2
  · have hf' := hf hx
    have hQ' := hQ hx
    clear hK hQ
    repeat' (first | (with_reducible (rintro _ rfl)) | (with_reducible intro _) | (refine And.intro ?_ ?_) | (fail))
    all_goals (try dsimp only at *)
    all_goals (first | trivial | assumption | omega | (exfalso; omega) | (refine zzI _ ?_ ?_ <;> omega) | (refine hQ' _ ?_ ?_ <;> first | rfl | assumption | omega) | skip)
  · have hK' := hK (by omega)
    clear hQ
    repeat' (first | (with_reducible (rintro _ rfl)) | (with_reducible intro _) | (refine And.intro ?_ ?_) | (fail))
    all_goals (try dsimp only at *)
    all_goals (first | trivial | assumption | omega | (exfalso; omega) | skip)
