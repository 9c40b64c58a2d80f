/-! ===== endings: returns and calls ===== -/
section MXE
variable {sL : Nat} {sx : Nat → Int32} {pg : List mx_En} {d mi pc : Nat} {ls : List (Nat × Value)} {st : List Value} {hp : List va_E} {c s : Nat} {r r1 : Option Value × List va_E × Nat × Nat} {e e1 : mx_En} {index len a b w i : Nat} {rest : List Value}
theorem mx_ends_iret {v : Int32} {q : Nat × Nat × Nat × Nat} (he : pg[mi]? = some e) (hq : mx_lk e.2.2.2 pc = some (.ireturn, q)) (hr : mx_rok e.1.2.2.2 v = true) : mx_ends sL sx pg d mi pc ls [.int v] hp c s (some (.int v), hp, c, s) := by
  refine ⟨1, ?_⟩
  unfold mx_run
  rw [he]
  dsimp only
  rw [hq]
  dsimp only
  rw [hr]
  rfl
theorem mx_ends_vret {q : Nat × Nat × Nat × Nat} (he : pg[mi]? = some e) (hq : mx_lk e.2.2.2 pc = some (.return_, q)) (hr : mx_rv e.1.2.2.2 = true) : mx_ends sL sx pg d mi pc ls [] hp c s (none, hp, c, s) := by
  refine ⟨1, ?_⟩
  unfold mx_run
  rw [he]
  dsimp only
  rw [hq]
  dsimp only
  rw [hr]
  rfl
theorem mx_ends_V (he : pg[mi]? = some e) (hq : mx_lk e.2.2.2 pc = some (.invokevirtual index, len, a, b, w)) (ha : pg[a]? = some e1) (hst : st.drop e1.2.1 = .ref i :: rest) (hb : (mx_isc hp i b && Nat.ble (mx_cs rest) 8 && Nat.ble (lg_sl (.ref i :: (st.take e1.2.1).reverse)).length e1.1.2.2.1 && Nat.beq (st.take e1.2.1).length e1.2.1) = true)
    (h1 : mx_ends sL sx pg d a 0 (lv_args 0 (.ref i :: (st.take e1.2.1).reverse)) [] hp 0 0 r1) (h2 : mx_ends sL sx pg (d + 1) mi (pc + 3) ls (r1.1.toList ++ rest) r1.2.1 (c + r1.2.2.1) (s + r1.2.2.2) r) : mx_ends sL sx pg (d + 1) mi pc ls st hp c s r := by
  obtain ⟨n1, h1⟩ := h1
  obtain ⟨n2, h2⟩ := h2
  refine ⟨(n1 + n2) + 1, ?_⟩
  unfold mx_run
  rw [he]
  dsimp only
  rw [hq]
  dsimp only
  rw [ha]
  dsimp only
  rw [hst]
  dsimp only
  rw [hb]
  dsimp only [cond]
  rw [mx_mono h1 (n1 + n2) (Nat.le_add_right _ _)]
  exact mx_mono h2 (n1 + n2) (Nat.le_add_left _ _)
theorem mx_ends_I (he : pg[mi]? = some e) (hq : mx_lk e.2.2.2 pc = some (.invokespecial index, len, a, b, w)) (hbb : Nat.beq b 1 = false) (ha : pg[a]? = some e1) (hst : st.drop e1.2.1 = .ref i :: rest) (hb : (Nat.ble (mx_cs rest) 8 && Nat.ble (lg_sl (.ref i :: (st.take e1.2.1).reverse)).length e1.1.2.2.1 && Nat.beq (st.take e1.2.1).length e1.2.1) = true)
    (h1 : mx_ends sL sx pg d a 0 (lv_args 0 (.ref i :: (st.take e1.2.1).reverse)) [] hp 0 0 r1) (h2 : mx_ends sL sx pg (d + 1) mi (pc + 3) ls (r1.1.toList ++ rest) r1.2.1 (c + r1.2.2.1) (s + r1.2.2.2) r) : mx_ends sL sx pg (d + 1) mi pc ls st hp c s r := by
  obtain ⟨n1, h1⟩ := h1
  obtain ⟨n2, h2⟩ := h2
  refine ⟨(n1 + n2) + 1, ?_⟩
  unfold mx_run
  rw [he]
  dsimp only
  rw [hq]
  dsimp only
  rw [hbb]
  dsimp only [cond]
  rw [ha]
  dsimp only
  rw [hst]
  dsimp only
  rw [hb]
  dsimp only
  rw [mx_mono h1 (n1 + n2) (Nat.le_add_right _ _)]
  exact mx_mono h2 (n1 + n2) (Nat.le_add_left _ _)
theorem mx_ends_S (he : pg[mi]? = some e) (hq : mx_lk e.2.2.2 pc = some (.invokestatic index, len, a, b, w)) (hbb : Nat.ble 7 b = false) (ha : pg[a]? = some e1) (hb : (Nat.ble (mx_cs (st.drop e1.2.1)) 8 && Nat.ble (lg_sl (st.take e1.2.1).reverse).length e1.1.2.2.1 && Nat.beq (st.take e1.2.1).length e1.2.1) = true)
    (h1 : mx_ends sL sx pg d a 0 (lv_args 0 (st.take e1.2.1).reverse) [] hp 0 0 r1) (h2 : mx_ends sL sx pg (d + 1) mi (pc + 3) ls (r1.1.toList ++ st.drop e1.2.1) r1.2.1 (c + r1.2.2.1) (s + r1.2.2.2) r) : mx_ends sL sx pg (d + 1) mi pc ls st hp c s r := by
  obtain ⟨n1, h1⟩ := h1
  obtain ⟨n2, h2⟩ := h2
  refine ⟨(n1 + n2) + 1, ?_⟩
  unfold mx_run
  rw [he]
  dsimp only
  rw [hq]
  dsimp only
  rw [hbb]
  dsimp only [cond]
  rw [ha]
  dsimp only
  rw [hb]
  dsimp only
  rw [mx_mono h1 (n1 + n2) (Nat.le_add_right _ _)]
  exact mx_mono h2 (n1 + n2) (Nat.le_add_left _ _)
theorem mx_ends_N {f : mx_Cf} (he : pg[mi]? = some e) (hq : mx_lk e.2.2.2 pc = some (.invokestatic index, len, a, b, w)) (hbb : Nat.ble 7 b = true) (hf : mx_nat b (pc + 3) ls st hp = some f) (h2 : mx_ends sL sx pg (d + 2) mi f.1 f.2.1 f.2.2.1 f.2.2.2.1 (c + f.2.2.2.2.1) (s + f.2.2.2.2.2) r) : mx_ends sL sx pg (d + 2) mi pc ls st hp c s r := by
  obtain ⟨n2, h2⟩ := h2
  refine ⟨n2 + 1, ?_⟩
  unfold mx_run
  rw [he]
  dsimp only
  rw [hq]
  dsimp only
  rw [hbb]
  dsimp only [cond, Nat.beq]
  rw [hf]
  exact h2
end MXE
