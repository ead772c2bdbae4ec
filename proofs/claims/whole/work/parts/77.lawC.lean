/-! The law, call by call. -/
theorem law_create {p : Program} {l : Launch} {e : Env} {s : State} {m : MethodId} {below : List Frame} {meth : Method} {c0 : Code} {b L : Nat} {xs : Nat → Int32} {D : va_G} {H : Heap} {locs : List Loc} {cells slots : Nat} {ls : Array Slot} {ΛC ΛR : Lam} {c r : Nat → Nat} {σ ρ : Mem} {i : Nat} (hF : LF p s m c0 b L xs) (w : WD D s ΛC σ ΛR ρ H locs) (jv : JV ΛC c σ ΛR r ρ) (hl : lv_has ls 4 [(3, .int (iI i)), (2, .ref (r 0)), (1, .ref (c 0)), (0, .ref b)]) (hi : i + 4 ≤ L) (hcs : cells + 2 ≤ 600000) (hss : slots + 10 ≤ 7302250) (go : ∀ ΛC' σ' ΛR' ρ' H' locs', WD D s ΛC' σ' ΛR' ρ' H' locs' → JV ΛC' c σ' ΛR' r ρ' → W p l e room_1 s m #[Value.ref b] below meth c0 H' locs' (cells + 2) (slots + 10) (lw_Z below #[Value.ref b] s) (F0 m 584 ls [])) : W p l e room_1 s m #[Value.ref b] below meth c0 H locs cells slots (lw_Z below #[Value.ref b] s) (F0 m 128 ls []) := by
  have hF0 := hF
  obtain ⟨hex, hb, hml, hown, hts, hX, hbl, hNW, hLL⟩ := hF
  obtain ⟨g, fi, fj, rwl, th, rb⟩ := jv
  refine lv_aload_n hex hb d_L_128 rfl (lv_at hl 2 rfl) ?_
  refine law_ld hF0 w.2.2.2.2.2.2.1 hl d_L_129 d_L_130 d_L_131 d_L_132 d_L_133 (j := i + 1) (by omega) (by omega) ?_
  refine law_ld hF0 w.2.2.2.2.2.2.1 hl d_L_134 d_L_135 d_L_136 d_L_137 d_L_138 (j := i + 2) (by omega) (by omega) ?_
  refine law_ld hF0 w.2.2.2.2.2.2.1 hl d_L_139 d_L_140 d_L_141 d_L_142 d_L_143 (j := i + 3) (by omega) (by omega) ?_
  have hR1 := rng_of (xs (i + 1))
  generalize ha1 : (xs (i + 1)).toInt = A1 at hR1 ⊢
  have hR2 := rng_of (xs (i + 2))
  generalize ha2 : (xs (i + 2)).toInt = A2 at hR2 ⊢
  have hR3 := rng_of (xs (i + 3))
  generalize ha3 : (xs (i + 3)).toInt = A3 at hR3 ⊢
  have T : K_H_create l D ΛC σ c A1 A2 A3 (fun v Λ1 s1 => ∃ z : Int, v = some (.int (iI z)) ∧ CR ΛC c σ A1 A2 A3 z Λ1 s1) := c_H_create g.gb.wf fj hR1 hR2 hR3 (fun h1 => ⟨_, rfl, Or.inl ⟨h1, rfl, rfl, rfl⟩⟩) (fun h1 h2 => ⟨_, rfl, Or.inr (Or.inl ⟨h1, h2, rfl, rfl, rfl⟩)⟩) (fun h1 h2 h3 => ⟨_, rfl, Or.inr (Or.inr (Or.inl ⟨h1, h2, h3, rfl, rfl, rfl⟩))⟩) (fun h1 h2 h3 q1 q2 cA n1 n2 hq => ⟨_, rfl, Or.inr (Or.inr (Or.inr ⟨h1, h2, h3, rfl, q1, q2, cA, n1, n2, hq, rfl, rfl⟩))⟩)
  refine callC w (va_runV (As := [.int (iI A1), .int (iI A2), .int (iI A3)]) (rest := []) ⟨hex, hb, hml, hown, hts⟩ (Ct.use T H.size) (cwV 3 hts (gdV bg_70 bg_71 bg_72 bg_1 bc_H_create) rfl rfl rfl hdV_H_create ⟨Nat.le_of_ble_eq_true rfl, Nat.le_of_ble_eq_true rfl⟩) (px_preV (ci := 3) hNW w.2.2.1 w.1 g.gb.wf.ly.1 rfl) rfl rfl hl.1 rfl (lv_room (Nat.le_of_ble_eq_true rfl)) d_L_144 ⟨(show cells + 2 ≤ 600000 by omega), (show slots + 10 ≤ 7302250 by omega)⟩) (fun v Λ1 s1 H locs hp w => ?_)
  obtain ⟨z, rfl, hcr⟩ := hp
  obtain ⟨g1, fi1, fj1⟩ := hcr.keep g fi fj hR3
  refine W.eq (g2 := F0 m 147 ls [.int (iI z)]) rfl ?_
  refine lv_aload_n hex hb d_L_147 rfl (lv_at hl 1 rfl) ?_
  refine law_ld hF0 w.2.2.2.2.2.2.1 hl d_L_148 d_L_149 d_L_150 d_L_151 d_L_152 (j := i + 1) (by omega) (by omega) ?_
  refine law_ld hF0 w.2.2.2.2.2.2.1 hl d_L_153 d_L_154 d_L_155 d_L_156 d_L_157 (j := i + 2) (by omega) (by omega) ?_
  refine law_ld hF0 w.2.2.2.2.2.2.1 hl d_L_158 d_L_159 d_L_160 d_L_161 d_L_162 (j := i + 3) (by omega) (by omega) ?_
  rw [ha1, ha2, ha3]
  have T := hcr.ref (l := l) (D := D) rwl g fj rb hR1 hR2 hR3
  refine callR w (va_runV (As := [.int (iI A1), .int (iI A2), .int (iI A3)]) (rest := [.int (iI z)]) ⟨hex, hb, hml, hown, hts⟩ (Ct.use T H.size) (cwV 3 hts (gdV bg_516 bg_517 bg_518 bg_4 bc_M_create) rfl rfl rfl hdV_M_create ⟨Nat.le_of_ble_eq_true rfl, Nat.le_of_ble_eq_true rfl⟩) (px_preV (ci := 4) hNW w.2.2.2.1 w.2.1 rwl.ly.1 rfl) rfl rfl hl.1 rfl (lv_room (Nat.le_of_ble_eq_true rfl)) d_L_163 ⟨(show cells + 2 + 0 ≤ 600000 by omega), (show slots + 10 + 0 ≤ 7302250 by omega)⟩) (fun v ΛR1 q H locs hp w => ?_)
  obtain ⟨z2, rfl, rfl, hz2, w2, th2, rb2⟩ := hp
  subst hz2
  refine W.eq (g2 := F0 m 166 ls [.int (iI z2), .int (iI z2)]) rfl ?_
  refine lv_icmp_eq (tgt := 584) hex hb d_L_166 rfl (fun _ => ?_) (fun hne => absurd rfl hne)
  exact W.widen (k := cells + 2) (n := slots + 10) (show cells + 2 + 0 ≤ cells + 2 by omega) (show slots + 10 + 0 ≤ slots + 10 by omega) (go _ _ _ _ _ _ w ⟨g1, fi1, fj1, w2, th2, rb2⟩)
theorem law_clear {p : Program} {l : Launch} {e : Env} {s : State} {m : MethodId} {below : List Frame} {meth : Method} {c0 : Code} {b L : Nat} {xs : Nat → Int32} {D : va_G} {H : Heap} {locs : List Loc} {cells slots : Nat} {ls : Array Slot} {ΛC ΛR : Lam} {c r : Nat → Nat} {σ ρ : Mem} {i : Nat} (hF : LF p s m c0 b L xs) (w : WD D s ΛC σ ΛR ρ H locs) (jv : JV ΛC c σ ΛR r ρ) (hl : lv_has ls 4 [(3, .int (iI i)), (2, .ref (r 0)), (1, .ref (c 0)), (0, .ref b)]) (hi : i + 4 ≤ L) (hcs : cells + 2 ≤ 600000) (hss : slots + 10 ≤ 7302250) (go : ∀ ΛC' σ' ΛR' ρ' H' locs', WD D s ΛC' σ' ΛR' ρ' H' locs' → JV ΛC' c σ' ΛR' r ρ' → W p l e room_1 s m #[Value.ref b] below meth c0 H' locs' (cells + 2) (slots + 10) (lw_Z below #[Value.ref b] s) (F0 m 584 ls [])) : W p l e room_1 s m #[Value.ref b] below meth c0 H locs cells slots (lw_Z below #[Value.ref b] s) (F0 m 171 ls []) := by
  have hF0 := hF
  obtain ⟨hex, hb, hml, hown, hts, hX, hbl, hNW, hLL⟩ := hF
  obtain ⟨g, fi, fj, rwl, th, rb⟩ := jv
  refine lv_aload_n hex hb d_L_171 rfl (lv_at hl 2 rfl) ?_
  refine law_ld hF0 w.2.2.2.2.2.2.1 hl d_L_172 d_L_173 d_L_174 d_L_175 d_L_176 (j := i + 1) (by omega) (by omega) ?_
  have hR1 := rng_of (xs (i + 1))
  generalize ha1 : (xs (i + 1)).toInt = A1 at hR1 ⊢
  have T := c_H_clear g.gb.wf.ly hR1 (l := l) (D := D) (P := fun z s1 => z = (fClear c A1 σ).1 ∧ (fClear c A1 σ).2 = s1) ⟨rfl, rfl⟩
  refine callC w (va_runV (As := [.int (iI A1)]) (rest := []) ⟨hex, hb, hml, hown, hts⟩ (Ct.use T H.size) (cwV 1 hts (gdV bg_261 bg_262 bg_263 bg_1 bc_H_clear) rfl rfl rfl hdV_H_clear ⟨Nat.le_of_ble_eq_true rfl, Nat.le_of_ble_eq_true rfl⟩) (px_preV (ci := 3) hNW w.2.2.1 w.1 g.gb.wf.ly.1 rfl) rfl rfl hl.1 rfl (lv_room (Nat.le_of_ble_eq_true rfl)) d_L_177 ⟨(show cells + 0 ≤ 600000 by omega), (show slots + 0 ≤ 7302250 by omega)⟩) (fun v Λ1 s1 H locs hp w => ?_)
  obtain ⟨z, rfl, rfl, hz, hs1⟩ := hp
  subst hs1
  refine W.eq (g2 := F0 m 180 ls [.int (iI z)]) rfl ?_
  refine lv_aload_n hex hb d_L_180 rfl (lv_at hl 1 rfl) ?_
  refine law_ld hF0 w.2.2.2.2.2.2.1 hl d_L_181 d_L_182 d_L_183 d_L_184 d_L_185 (j := i + 1) (by omega) (by omega) ?_
  rw [ha1]
  have T := s_clear rwl rb hR1 (l := l) (D := D) (P := fun z2 q => z2 = z ∧ RW ΛR r q ∧ ∃ th2, RB ΛC c r th2 ((fClear c A1 σ).2) q) (fun q w2 b2 => ⟨hz.symm, w2, th, b2⟩)
  refine callR w (va_runV (As := [.int (iI A1)]) (rest := [.int (iI z)]) ⟨hex, hb, hml, hown, hts⟩ (Ct.use T H.size) (cwV 1 hts (gdV bg_531 bg_532 bg_533 bg_4 bc_M_clear) rfl rfl rfl hdV_M_clear ⟨Nat.le_of_ble_eq_true rfl, Nat.le_of_ble_eq_true rfl⟩) (px_preV (ci := 4) hNW w.2.2.2.1 w.2.1 rwl.ly.1 rfl) rfl rfl hl.1 rfl (lv_room (Nat.le_of_ble_eq_true rfl)) d_L_186 ⟨(show cells + 0 + 0 ≤ 600000 by omega), (show slots + 0 + 0 ≤ 7302250 by omega)⟩) (fun v ΛR1 q H locs hp w => ?_)
  obtain ⟨z2, rfl, rfl, hz2, w2, th2, rb2⟩ := hp
  subst hz2
  refine W.eq (g2 := F0 m 189 ls [.int (iI z2), .int (iI z2)]) rfl ?_
  refine lv_icmp_eq (tgt := 584) hex hb d_L_189 rfl (fun _ => ?_) (fun hne => absurd rfl hne)
  exact W.widen (k := cells + 2) (n := slots + 10) (show cells + 0 + 0 ≤ cells + 2 by omega) (show slots + 0 + 0 ≤ slots + 10 by omega) (go _ _ _ _ _ _ w ⟨(g.clear _), fi, fj, w2, th2, rb2⟩)
theorem law_copy {p : Program} {l : Launch} {e : Env} {s : State} {m : MethodId} {below : List Frame} {meth : Method} {c0 : Code} {b L : Nat} {xs : Nat → Int32} {D : va_G} {H : Heap} {locs : List Loc} {cells slots : Nat} {ls : Array Slot} {ΛC ΛR : Lam} {c r : Nat → Nat} {σ ρ : Mem} {i : Nat} (hF : LF p s m c0 b L xs) (w : WD D s ΛC σ ΛR ρ H locs) (jv : JV ΛC c σ ΛR r ρ) (hl : lv_has ls 4 [(3, .int (iI i)), (2, .ref (r 0)), (1, .ref (c 0)), (0, .ref b)]) (hi : i + 4 ≤ L) (hcs : cells + 2 ≤ 600000) (hss : slots + 10 ≤ 7302250) (go : ∀ ΛC' σ' ΛR' ρ' H' locs', WD D s ΛC' σ' ΛR' ρ' H' locs' → JV ΛC' c σ' ΛR' r ρ' → W p l e room_1 s m #[Value.ref b] below meth c0 H' locs' (cells + 2) (slots + 10) (lw_Z below #[Value.ref b] s) (F0 m 584 ls [])) : W p l e room_1 s m #[Value.ref b] below meth c0 H locs cells slots (lw_Z below #[Value.ref b] s) (F0 m 194 ls []) := by
  have hF0 := hF
  obtain ⟨hex, hb, hml, hown, hts, hX, hbl, hNW, hLL⟩ := hF
  obtain ⟨g, fi, fj, rwl, th, rb⟩ := jv
  refine lv_aload_n hex hb d_L_194 rfl (lv_at hl 2 rfl) ?_
  refine law_ld hF0 w.2.2.2.2.2.2.1 hl d_L_195 d_L_196 d_L_197 d_L_198 d_L_199 (j := i + 1) (by omega) (by omega) ?_
  refine law_ld hF0 w.2.2.2.2.2.2.1 hl d_L_200 d_L_201 d_L_202 d_L_203 d_L_204 (j := i + 2) (by omega) (by omega) ?_
  have hR1 := rng_of (xs (i + 1))
  generalize ha1 : (xs (i + 1)).toInt = A1 at hR1 ⊢
  have hR2 := rng_of (xs (i + 2))
  generalize ha2 : (xs (i + 2)).toInt = A2 at hR2 ⊢
  have T := c_H_copy g.gb.wf hR1 hR2 (l := l) (D := D) (P := fun z s1 => z = (fCopy c A1 A2 σ).1 ∧ (fCopy c A1 A2 σ).2 = s1) ⟨rfl, rfl⟩
  refine callC w (va_runV (As := [.int (iI A1), .int (iI A2)]) (rest := []) ⟨hex, hb, hml, hown, hts⟩ (Ct.use T H.size) (cwV 2 hts (gdV bg_265 bg_266 bg_267 bg_1 bc_H_copy) rfl rfl rfl hdV_H_copy ⟨Nat.le_of_ble_eq_true rfl, Nat.le_of_ble_eq_true rfl⟩) (px_preV (ci := 3) hNW w.2.2.1 w.1 g.gb.wf.ly.1 rfl) rfl rfl hl.1 rfl (lv_room (Nat.le_of_ble_eq_true rfl)) d_L_205 ⟨(show cells + 0 ≤ 600000 by omega), (show slots + 0 ≤ 7302250 by omega)⟩) (fun v Λ1 s1 H locs hp w => ?_)
  obtain ⟨z, rfl, rfl, hz, hs1⟩ := hp
  subst hs1
  refine W.eq (g2 := F0 m 208 ls [.int (iI z)]) rfl ?_
  refine lv_aload_n hex hb d_L_208 rfl (lv_at hl 1 rfl) ?_
  refine law_ld hF0 w.2.2.2.2.2.2.1 hl d_L_209 d_L_210 d_L_211 d_L_212 d_L_213 (j := i + 1) (by omega) (by omega) ?_
  refine law_ld hF0 w.2.2.2.2.2.2.1 hl d_L_214 d_L_215 d_L_216 d_L_217 d_L_218 (j := i + 2) (by omega) (by omega) ?_
  rw [ha1, ha2]
  have T := s_copy rwl rb hR1 hR2 (l := l) (D := D) (P := fun z2 q => z2 = z ∧ RW ΛR r q ∧ ∃ th2, RB ΛC c r th2 ((fCopy c A1 A2 σ).2) q) (fun q w2 b2 => ⟨hz.symm, w2, th, b2⟩)
  refine callR w (va_runV (As := [.int (iI A1), .int (iI A2)]) (rest := [.int (iI z)]) ⟨hex, hb, hml, hown, hts⟩ (Ct.use T H.size) (cwV 2 hts (gdV bg_535 bg_536 bg_537 bg_4 bc_M_copy) rfl rfl rfl hdV_M_copy ⟨Nat.le_of_ble_eq_true rfl, Nat.le_of_ble_eq_true rfl⟩) (px_preV (ci := 4) hNW w.2.2.2.1 w.2.1 rwl.ly.1 rfl) rfl rfl hl.1 rfl (lv_room (Nat.le_of_ble_eq_true rfl)) d_L_219 ⟨(show cells + 0 + 0 ≤ 600000 by omega), (show slots + 0 + 0 ≤ 7302250 by omega)⟩) (fun v ΛR1 q H locs hp w => ?_)
  obtain ⟨z2, rfl, rfl, hz2, w2, th2, rb2⟩ := hp
  subst hz2
  refine W.eq (g2 := F0 m 222 ls [.int (iI z2), .int (iI z2)]) rfl ?_
  refine lv_icmp_eq (tgt := 584) hex hb d_L_222 rfl (fun _ => ?_) (fun hne => absurd rfl hne)
  exact W.widen (k := cells + 2) (n := slots + 10) (show cells + 0 + 0 ≤ cells + 2 by omega) (show slots + 0 + 0 ≤ slots + 10 by omega) (go _ _ _ _ _ _ w ⟨(g.copy _ _), fi, fj, w2, th2, rb2⟩)
theorem law_load {p : Program} {l : Launch} {e : Env} {s : State} {m : MethodId} {below : List Frame} {meth : Method} {c0 : Code} {b L : Nat} {xs : Nat → Int32} {D : va_G} {H : Heap} {locs : List Loc} {cells slots : Nat} {ls : Array Slot} {ΛC ΛR : Lam} {c r : Nat → Nat} {σ ρ : Mem} {i : Nat} (hF : LF p s m c0 b L xs) (w : WD D s ΛC σ ΛR ρ H locs) (jv : JV ΛC c σ ΛR r ρ) (hl : lv_has ls 4 [(3, .int (iI i)), (2, .ref (r 0)), (1, .ref (c 0)), (0, .ref b)]) (hi : i + 4 ≤ L) (hcs : cells + 2 ≤ 600000) (hss : slots + 10 ≤ 7302250) (go : ∀ ΛC' σ' ΛR' ρ' H' locs', WD D s ΛC' σ' ΛR' ρ' H' locs' → JV ΛC' c σ' ΛR' r ρ' → W p l e room_1 s m #[Value.ref b] below meth c0 H' locs' (cells + 2) (slots + 10) (lw_Z below #[Value.ref b] s) (F0 m 584 ls [])) : W p l e room_1 s m #[Value.ref b] below meth c0 H locs cells slots (lw_Z below #[Value.ref b] s) (F0 m 227 ls []) := by
  have hF0 := hF
  obtain ⟨hex, hb, hml, hown, hts, hX, hbl, hNW, hLL⟩ := hF
  obtain ⟨g, fi, fj, rwl, th, rb⟩ := jv
  refine lv_aload_n hex hb d_L_227 rfl (lv_at hl 2 rfl) ?_
  refine law_ld hF0 w.2.2.2.2.2.2.1 hl d_L_228 d_L_229 d_L_230 d_L_231 d_L_232 (j := i + 1) (by omega) (by omega) ?_
  refine law_ld hF0 w.2.2.2.2.2.2.1 hl d_L_233 d_L_234 d_L_235 d_L_236 d_L_237 (j := i + 2) (by omega) (by omega) ?_
  refine law_ld hF0 w.2.2.2.2.2.2.1 hl d_L_238 d_L_239 d_L_240 d_L_241 d_L_242 (j := i + 3) (by omega) (by omega) ?_
  have hR1 := rng_of (xs (i + 1))
  generalize ha1 : (xs (i + 1)).toInt = A1 at hR1 ⊢
  have hR2 := rng_of (xs (i + 2))
  generalize ha2 : (xs (i + 2)).toInt = A2 at hR2 ⊢
  have hR3 := rng_of (xs (i + 3))
  generalize ha3 : (xs (i + 3)).toInt = A3 at hR3 ⊢
  have T := c_H_load g.gb.wf hR1 hR2 hR3 (l := l) (D := D) (P := fun z s1 => z = (fLoad ΛC c A1 A2 A3 σ).1 ∧ (fLoad ΛC c A1 A2 A3 σ).2 = s1) ⟨rfl, rfl⟩
  refine callC w (va_runV (As := [.int (iI A1), .int (iI A2), .int (iI A3)]) (rest := []) ⟨hex, hb, hml, hown, hts⟩ (Ct.use T H.size) (cwV 3 hts (gdV bg_269 bg_270 bg_271 bg_1 bc_H_load) rfl rfl rfl hdV_H_load ⟨Nat.le_of_ble_eq_true rfl, Nat.le_of_ble_eq_true rfl⟩) (px_preV (ci := 3) hNW w.2.2.1 w.1 g.gb.wf.ly.1 rfl) rfl rfl hl.1 rfl (lv_room (Nat.le_of_ble_eq_true rfl)) d_L_243 ⟨(show cells + 0 ≤ 600000 by omega), (show slots + 0 ≤ 7302250 by omega)⟩) (fun v Λ1 s1 H locs hp w => ?_)
  obtain ⟨z, rfl, rfl, hz, hs1⟩ := hp
  subst hs1
  refine W.eq (g2 := F0 m 246 ls [.int (iI z)]) rfl ?_
  refine lv_aload_n hex hb d_L_246 rfl (lv_at hl 1 rfl) ?_
  refine law_ld hF0 w.2.2.2.2.2.2.1 hl d_L_247 d_L_248 d_L_249 d_L_250 d_L_251 (j := i + 1) (by omega) (by omega) ?_
  refine law_ld hF0 w.2.2.2.2.2.2.1 hl d_L_252 d_L_253 d_L_254 d_L_255 d_L_256 (j := i + 2) (by omega) (by omega) ?_
  refine law_ld hF0 w.2.2.2.2.2.2.1 hl d_L_257 d_L_258 d_L_259 d_L_260 d_L_261 (j := i + 3) (by omega) (by omega) ?_
  rw [ha1, ha2, ha3]
  have T := s_load rwl g rb hR1 hR2 hR3 (l := l) (D := D) (P := fun z2 q => z2 = z ∧ RW ΛR r q ∧ ∃ th2, RB ΛC c r th2 ((fLoad ΛC c A1 A2 A3 σ).2) q) (fun q w2 b2 => ⟨hz.symm, w2, th, b2⟩)
  refine callR w (va_runV (As := [.int (iI A1), .int (iI A2), .int (iI A3)]) (rest := [.int (iI z)]) ⟨hex, hb, hml, hown, hts⟩ (Ct.use T H.size) (cwV 3 hts (gdV bg_539 bg_540 bg_541 bg_4 bc_M_load) rfl rfl rfl hdV_M_load ⟨Nat.le_of_ble_eq_true rfl, Nat.le_of_ble_eq_true rfl⟩) (px_preV (ci := 4) hNW w.2.2.2.1 w.2.1 rwl.ly.1 rfl) rfl rfl hl.1 rfl (lv_room (Nat.le_of_ble_eq_true rfl)) d_L_262 ⟨(show cells + 0 + 0 ≤ 600000 by omega), (show slots + 0 + 0 ≤ 7302250 by omega)⟩) (fun v ΛR1 q H locs hp w => ?_)
  obtain ⟨z2, rfl, rfl, hz2, w2, th2, rb2⟩ := hp
  subst hz2
  refine W.eq (g2 := F0 m 265 ls [.int (iI z2), .int (iI z2)]) rfl ?_
  refine lv_icmp_eq (tgt := 584) hex hb d_L_265 rfl (fun _ => ?_) (fun hne => absurd rfl hne)
  exact W.widen (k := cells + 2) (n := slots + 10) (show cells + 0 + 0 ≤ cells + 2 by omega) (show slots + 0 + 0 ≤ slots + 10 by omega) (go _ _ _ _ _ _ w ⟨(g.load _ _ _), fi, fj, w2, th2, rb2⟩)
theorem law_store {p : Program} {l : Launch} {e : Env} {s : State} {m : MethodId} {below : List Frame} {meth : Method} {c0 : Code} {b L : Nat} {xs : Nat → Int32} {D : va_G} {H : Heap} {locs : List Loc} {cells slots : Nat} {ls : Array Slot} {ΛC ΛR : Lam} {c r : Nat → Nat} {σ ρ : Mem} {i : Nat} (hF : LF p s m c0 b L xs) (w : WD D s ΛC σ ΛR ρ H locs) (jv : JV ΛC c σ ΛR r ρ) (hl : lv_has ls 4 [(3, .int (iI i)), (2, .ref (r 0)), (1, .ref (c 0)), (0, .ref b)]) (hi : i + 4 ≤ L) (hcs : cells + 2 ≤ 600000) (hss : slots + 10 ≤ 7302250) (go : ∀ ΛC' σ' ΛR' ρ' H' locs', WD D s ΛC' σ' ΛR' ρ' H' locs' → JV ΛC' c σ' ΛR' r ρ' → W p l e room_1 s m #[Value.ref b] below meth c0 H' locs' (cells + 2) (slots + 10) (lw_Z below #[Value.ref b] s) (F0 m 584 ls [])) : W p l e room_1 s m #[Value.ref b] below meth c0 H locs cells slots (lw_Z below #[Value.ref b] s) (F0 m 270 ls []) := by
  have hF0 := hF
  obtain ⟨hex, hb, hml, hown, hts, hX, hbl, hNW, hLL⟩ := hF
  obtain ⟨g, fi, fj, rwl, th, rb⟩ := jv
  refine lv_aload_n hex hb d_L_270 rfl (lv_at hl 2 rfl) ?_
  refine law_ld hF0 w.2.2.2.2.2.2.1 hl d_L_271 d_L_272 d_L_273 d_L_274 d_L_275 (j := i + 1) (by omega) (by omega) ?_
  refine law_ld hF0 w.2.2.2.2.2.2.1 hl d_L_276 d_L_277 d_L_278 d_L_279 d_L_280 (j := i + 2) (by omega) (by omega) ?_
  refine law_ld hF0 w.2.2.2.2.2.2.1 hl d_L_281 d_L_282 d_L_283 d_L_284 d_L_285 (j := i + 3) (by omega) (by omega) ?_
  have hR1 := rng_of (xs (i + 1))
  generalize ha1 : (xs (i + 1)).toInt = A1 at hR1 ⊢
  have hR2 := rng_of (xs (i + 2))
  generalize ha2 : (xs (i + 2)).toInt = A2 at hR2 ⊢
  have hR3 := rng_of (xs (i + 3))
  generalize ha3 : (xs (i + 3)).toInt = A3 at hR3 ⊢
  have T := c_H_store g.gb.wf hR1 hR2 hR3 (l := l) (D := D) (P := fun z s1 => z = (fStore ΛC c A1 A2 A3 σ).1 ∧ (fStore ΛC c A1 A2 A3 σ).2 = s1) ⟨rfl, rfl⟩
  refine callC w (va_runV (As := [.int (iI A1), .int (iI A2), .int (iI A3)]) (rest := []) ⟨hex, hb, hml, hown, hts⟩ (Ct.use T H.size) (cwV 3 hts (gdV bg_274 bg_275 bg_276 bg_1 bc_H_store) rfl rfl rfl hdV_H_store ⟨Nat.le_of_ble_eq_true rfl, Nat.le_of_ble_eq_true rfl⟩) (px_preV (ci := 3) hNW w.2.2.1 w.1 g.gb.wf.ly.1 rfl) rfl rfl hl.1 rfl (lv_room (Nat.le_of_ble_eq_true rfl)) d_L_286 ⟨(show cells + 0 ≤ 600000 by omega), (show slots + 0 ≤ 7302250 by omega)⟩) (fun v Λ1 s1 H locs hp w => ?_)
  obtain ⟨z, rfl, rfl, hz, hs1⟩ := hp
  subst hs1
  refine W.eq (g2 := F0 m 289 ls [.int (iI z)]) rfl ?_
  refine lv_aload_n hex hb d_L_289 rfl (lv_at hl 1 rfl) ?_
  refine law_ld hF0 w.2.2.2.2.2.2.1 hl d_L_290 d_L_291 d_L_292 d_L_293 d_L_294 (j := i + 1) (by omega) (by omega) ?_
  refine law_ld hF0 w.2.2.2.2.2.2.1 hl d_L_295 d_L_296 d_L_297 d_L_298 d_L_299 (j := i + 2) (by omega) (by omega) ?_
  refine law_ld hF0 w.2.2.2.2.2.2.1 hl d_L_300 d_L_301 d_L_302 d_L_303 d_L_304 (j := i + 3) (by omega) (by omega) ?_
  rw [ha1, ha2, ha3]
  have T := s_store rwl g fi rb hR1 hR2 hR3 (l := l) (D := D) (P := fun z2 q => z2 = z ∧ RW ΛR r q ∧ ∃ th2, RB ΛC c r th2 ((fStore ΛC c A1 A2 A3 σ).2) q) (fun q w2 b2 => ⟨hz.symm, w2, th, b2⟩)
  refine callR w (va_runV (As := [.int (iI A1), .int (iI A2), .int (iI A3)]) (rest := [.int (iI z)]) ⟨hex, hb, hml, hown, hts⟩ (Ct.use T H.size) (cwV 3 hts (gdV bg_547 bg_548 bg_549 bg_4 bc_M_store) rfl rfl rfl hdV_M_store ⟨Nat.le_of_ble_eq_true rfl, Nat.le_of_ble_eq_true rfl⟩) (px_preV (ci := 4) hNW w.2.2.2.1 w.2.1 rwl.ly.1 rfl) rfl rfl hl.1 rfl (lv_room (Nat.le_of_ble_eq_true rfl)) d_L_305 ⟨(show cells + 0 + 0 ≤ 600000 by omega), (show slots + 0 + 0 ≤ 7302250 by omega)⟩) (fun v ΛR1 q H locs hp w => ?_)
  obtain ⟨z2, rfl, rfl, hz2, w2, th2, rb2⟩ := hp
  subst hz2
  refine W.eq (g2 := F0 m 308 ls [.int (iI z2), .int (iI z2)]) rfl ?_
  refine lv_icmp_eq (tgt := 584) hex hb d_L_308 rfl (fun _ => ?_) (fun hne => absurd rfl hne)
  exact W.widen (k := cells + 2) (n := slots + 10) (show cells + 0 + 0 ≤ cells + 2 by omega) (show slots + 0 + 0 ≤ slots + 10 by omega) (go _ _ _ _ _ _ w ⟨(g.store fi _ _ _), fi, fj, w2, th2, rb2⟩)
theorem law_payload {p : Program} {l : Launch} {e : Env} {s : State} {m : MethodId} {below : List Frame} {meth : Method} {c0 : Code} {b L : Nat} {xs : Nat → Int32} {D : va_G} {H : Heap} {locs : List Loc} {cells slots : Nat} {ls : Array Slot} {ΛC ΛR : Lam} {c r : Nat → Nat} {σ ρ : Mem} {i : Nat} (hF : LF p s m c0 b L xs) (w : WD D s ΛC σ ΛR ρ H locs) (jv : JV ΛC c σ ΛR r ρ) (hl : lv_has ls 4 [(3, .int (iI i)), (2, .ref (r 0)), (1, .ref (c 0)), (0, .ref b)]) (hi : i + 4 ≤ L) (hcs : cells + 2 ≤ 600000) (hss : slots + 10 ≤ 7302250) (go : ∀ ΛC' σ' ΛR' ρ' H' locs', WD D s ΛC' σ' ΛR' ρ' H' locs' → JV ΛC' c σ' ΛR' r ρ' → W p l e room_1 s m #[Value.ref b] below meth c0 H' locs' (cells + 2) (slots + 10) (lw_Z below #[Value.ref b] s) (F0 m 584 ls [])) : W p l e room_1 s m #[Value.ref b] below meth c0 H locs cells slots (lw_Z below #[Value.ref b] s) (F0 m 313 ls []) := by
  have hF0 := hF
  obtain ⟨hex, hb, hml, hown, hts, hX, hbl, hNW, hLL⟩ := hF
  obtain ⟨g, fi, fj, rwl, th, rb⟩ := jv
  refine lv_aload_n hex hb d_L_313 rfl (lv_at hl 2 rfl) ?_
  refine law_ld hF0 w.2.2.2.2.2.2.1 hl d_L_314 d_L_315 d_L_316 d_L_317 d_L_318 (j := i + 1) (by omega) (by omega) ?_
  have hR1 := rng_of (xs (i + 1))
  generalize ha1 : (xs (i + 1)).toInt = A1 at hR1 ⊢
  have T := c_H_payload g.gb.wf hR1 (l := l) (D := D) (P := fun z s1 => z = fPayload c A1 σ ∧ σ = s1) ⟨rfl, rfl⟩
  refine callC w (va_runV (As := [.int (iI A1)]) (rest := []) ⟨hex, hb, hml, hown, hts⟩ (Ct.use T H.size) (cwV 1 hts (gdV bg_282 bg_283 bg_284 bg_1 bc_H_payload) rfl rfl rfl hdV_H_payload ⟨Nat.le_of_ble_eq_true rfl, Nat.le_of_ble_eq_true rfl⟩) (px_preV (ci := 3) hNW w.2.2.1 w.1 g.gb.wf.ly.1 rfl) rfl rfl hl.1 rfl (lv_room (Nat.le_of_ble_eq_true rfl)) d_L_319 ⟨(show cells + 0 ≤ 600000 by omega), (show slots + 0 ≤ 7302250 by omega)⟩) (fun v Λ1 s1 H locs hp w => ?_)
  obtain ⟨z, rfl, rfl, hz, hs1⟩ := hp
  subst hs1
  refine W.eq (g2 := F0 m 322 ls [.int (iI z)]) rfl ?_
  refine lv_aload_n hex hb d_L_322 rfl (lv_at hl 1 rfl) ?_
  refine law_ld hF0 w.2.2.2.2.2.2.1 hl d_L_323 d_L_324 d_L_325 d_L_326 d_L_327 (j := i + 1) (by omega) (by omega) ?_
  rw [ha1]
  have T := s_payload rwl rb hR1 (l := l) (D := D) (P := fun z2 q => z2 = z ∧ RW ΛR r q ∧ ∃ th2, RB ΛC c r th2 (σ) q) ⟨hz.symm, rwl, th, rb⟩
  refine callR w (va_runV (As := [.int (iI A1)]) (rest := [.int (iI z)]) ⟨hex, hb, hml, hown, hts⟩ (Ct.use T H.size) (cwV 1 hts (gdV bg_551 bg_552 bg_553 bg_4 bc_M_payload) rfl rfl rfl hdV_M_payload ⟨Nat.le_of_ble_eq_true rfl, Nat.le_of_ble_eq_true rfl⟩) (px_preV (ci := 4) hNW w.2.2.2.1 w.2.1 rwl.ly.1 rfl) rfl rfl hl.1 rfl (lv_room (Nat.le_of_ble_eq_true rfl)) d_L_328 ⟨(show cells + 0 + 0 ≤ 600000 by omega), (show slots + 0 + 0 ≤ 7302250 by omega)⟩) (fun v ΛR1 q H locs hp w => ?_)
  obtain ⟨z2, rfl, rfl, hz2, w2, th2, rb2⟩ := hp
  subst hz2
  refine W.eq (g2 := F0 m 331 ls [.int (iI z2), .int (iI z2)]) rfl ?_
  refine lv_icmp_eq (tgt := 584) hex hb d_L_331 rfl (fun _ => ?_) (fun hne => absurd rfl hne)
  exact W.widen (k := cells + 2) (n := slots + 10) (show cells + 0 + 0 ≤ cells + 2 by omega) (show slots + 0 + 0 ≤ slots + 10 by omega) (go _ _ _ _ _ _ w ⟨(g), fi, fj, w2, th2, rb2⟩)
theorem law_same {p : Program} {l : Launch} {e : Env} {s : State} {m : MethodId} {below : List Frame} {meth : Method} {c0 : Code} {b L : Nat} {xs : Nat → Int32} {D : va_G} {H : Heap} {locs : List Loc} {cells slots : Nat} {ls : Array Slot} {ΛC ΛR : Lam} {c r : Nat → Nat} {σ ρ : Mem} {i : Nat} (hF : LF p s m c0 b L xs) (w : WD D s ΛC σ ΛR ρ H locs) (jv : JV ΛC c σ ΛR r ρ) (hl : lv_has ls 4 [(3, .int (iI i)), (2, .ref (r 0)), (1, .ref (c 0)), (0, .ref b)]) (hi : i + 4 ≤ L) (hcs : cells + 2 ≤ 600000) (hss : slots + 10 ≤ 7302250) (go : ∀ ΛC' σ' ΛR' ρ' H' locs', WD D s ΛC' σ' ΛR' ρ' H' locs' → JV ΛC' c σ' ΛR' r ρ' → W p l e room_1 s m #[Value.ref b] below meth c0 H' locs' (cells + 2) (slots + 10) (lw_Z below #[Value.ref b] s) (F0 m 584 ls [])) : W p l e room_1 s m #[Value.ref b] below meth c0 H locs cells slots (lw_Z below #[Value.ref b] s) (F0 m 336 ls []) := by
  have hF0 := hF
  obtain ⟨hex, hb, hml, hown, hts, hX, hbl, hNW, hLL⟩ := hF
  obtain ⟨g, fi, fj, rwl, th, rb⟩ := jv
  refine lv_aload_n hex hb d_L_336 rfl (lv_at hl 2 rfl) ?_
  refine law_ld hF0 w.2.2.2.2.2.2.1 hl d_L_337 d_L_338 d_L_339 d_L_340 d_L_341 (j := i + 1) (by omega) (by omega) ?_
  refine law_ld hF0 w.2.2.2.2.2.2.1 hl d_L_342 d_L_343 d_L_344 d_L_345 d_L_346 (j := i + 2) (by omega) (by omega) ?_
  have hR1 := rng_of (xs (i + 1))
  generalize ha1 : (xs (i + 1)).toInt = A1 at hR1 ⊢
  have hR2 := rng_of (xs (i + 2))
  generalize ha2 : (xs (i + 2)).toInt = A2 at hR2 ⊢
  have T := c_H_same g.gb.wf.ly hR1 hR2 (l := l) (D := D) (P := fun z s1 => z = fSame c A1 A2 σ ∧ σ = s1) ⟨rfl, rfl⟩
  refine callC w (va_runV (As := [.int (iI A1), .int (iI A2)]) (rest := []) ⟨hex, hb, hml, hown, hts⟩ (Ct.use T H.size) (cwV 2 hts (gdV bg_290 bg_291 bg_292 bg_1 bc_H_same) rfl rfl rfl hdV_H_same ⟨Nat.le_of_ble_eq_true rfl, Nat.le_of_ble_eq_true rfl⟩) (px_preV (ci := 3) hNW w.2.2.1 w.1 g.gb.wf.ly.1 rfl) rfl rfl hl.1 rfl (lv_room (Nat.le_of_ble_eq_true rfl)) d_L_347 ⟨(show cells + 0 ≤ 600000 by omega), (show slots + 0 ≤ 7302250 by omega)⟩) (fun v Λ1 s1 H locs hp w => ?_)
  obtain ⟨z, rfl, rfl, hz, hs1⟩ := hp
  subst hs1
  refine W.eq (g2 := F0 m 350 ls [.int (iI z)]) rfl ?_
  refine lv_aload_n hex hb d_L_350 rfl (lv_at hl 1 rfl) ?_
  refine law_ld hF0 w.2.2.2.2.2.2.1 hl d_L_351 d_L_352 d_L_353 d_L_354 d_L_355 (j := i + 1) (by omega) (by omega) ?_
  refine law_ld hF0 w.2.2.2.2.2.2.1 hl d_L_356 d_L_357 d_L_358 d_L_359 d_L_360 (j := i + 2) (by omega) (by omega) ?_
  rw [ha1, ha2]
  have T := s_same rwl rb hR1 hR2 (l := l) (D := D) (P := fun z2 q => z2 = z ∧ RW ΛR r q ∧ ∃ th2, RB ΛC c r th2 (σ) q) ⟨hz.symm, rwl, th, rb⟩
  refine callR w (va_runV (As := [.int (iI A1), .int (iI A2)]) (rest := [.int (iI z)]) ⟨hex, hb, hml, hown, hts⟩ (Ct.use T H.size) (cwV 2 hts (gdV bg_555 bg_556 bg_557 bg_4 bc_M_same) rfl rfl rfl hdV_M_same ⟨Nat.le_of_ble_eq_true rfl, Nat.le_of_ble_eq_true rfl⟩) (px_preV (ci := 4) hNW w.2.2.2.1 w.2.1 rwl.ly.1 rfl) rfl rfl hl.1 rfl (lv_room (Nat.le_of_ble_eq_true rfl)) d_L_361 ⟨(show cells + 0 + 0 ≤ 600000 by omega), (show slots + 0 + 0 ≤ 7302250 by omega)⟩) (fun v ΛR1 q H locs hp w => ?_)
  obtain ⟨z2, rfl, rfl, hz2, w2, th2, rb2⟩ := hp
  subst hz2
  refine W.eq (g2 := F0 m 364 ls [.int (iI z2), .int (iI z2)]) rfl ?_
  refine lv_icmp_eq (tgt := 584) hex hb d_L_364 rfl (fun _ => ?_) (fun hne => absurd rfl hne)
  exact W.widen (k := cells + 2) (n := slots + 10) (show cells + 0 + 0 ≤ cells + 2 by omega) (show slots + 0 + 0 ≤ slots + 10 by omega) (go _ _ _ _ _ _ w ⟨(g), fi, fj, w2, th2, rb2⟩)
theorem law_address {p : Program} {l : Launch} {e : Env} {s : State} {m : MethodId} {below : List Frame} {meth : Method} {c0 : Code} {b L : Nat} {xs : Nat → Int32} {D : va_G} {H : Heap} {locs : List Loc} {cells slots : Nat} {ls : Array Slot} {ΛC ΛR : Lam} {c r : Nat → Nat} {σ ρ : Mem} {i : Nat} (hF : LF p s m c0 b L xs) (w : WD D s ΛC σ ΛR ρ H locs) (jv : JV ΛC c σ ΛR r ρ) (hl : lv_has ls 4 [(3, .int (iI i)), (2, .ref (r 0)), (1, .ref (c 0)), (0, .ref b)]) (hi : i + 4 ≤ L) (hcs : cells + 2 ≤ 600000) (hss : slots + 10 ≤ 7302250) (go : ∀ ΛC' σ' ΛR' ρ' H' locs', WD D s ΛC' σ' ΛR' ρ' H' locs' → JV ΛC' c σ' ΛR' r ρ' → W p l e room_1 s m #[Value.ref b] below meth c0 H' locs' (cells + 2) (slots + 10) (lw_Z below #[Value.ref b] s) (F0 m 584 ls [])) : W p l e room_1 s m #[Value.ref b] below meth c0 H locs cells slots (lw_Z below #[Value.ref b] s) (F0 m 369 ls []) := by
  have hF0 := hF
  obtain ⟨hex, hb, hml, hown, hts, hX, hbl, hNW, hLL⟩ := hF
  obtain ⟨g, fi, fj, rwl, th, rb⟩ := jv
  refine lv_aload_n hex hb d_L_369 rfl (lv_at hl 2 rfl) ?_
  refine law_ld hF0 w.2.2.2.2.2.2.1 hl d_L_370 d_L_371 d_L_372 d_L_373 d_L_374 (j := i + 1) (by omega) (by omega) ?_
  have hR1 := rng_of (xs (i + 1))
  generalize ha1 : (xs (i + 1)).toInt = A1 at hR1 ⊢
  have T := c_H_address g.gb.wf hR1 (l := l) (D := D) (P := fun z s1 => z = fAddress c A1 σ ∧ σ = s1) ⟨rfl, rfl⟩
  refine callC w (va_runV (As := [.int (iI A1)]) (rest := []) ⟨hex, hb, hml, hown, hts⟩ (Ct.use T H.size) (cwV 1 hts (gdV bg_294 bg_295 bg_296 bg_1 bc_H_address) rfl rfl rfl hdV_H_address ⟨Nat.le_of_ble_eq_true rfl, Nat.le_of_ble_eq_true rfl⟩) (px_preV (ci := 3) hNW w.2.2.1 w.1 g.gb.wf.ly.1 rfl) rfl rfl hl.1 rfl (lv_room (Nat.le_of_ble_eq_true rfl)) d_L_375 ⟨(show cells + 0 ≤ 600000 by omega), (show slots + 0 ≤ 7302250 by omega)⟩) (fun v Λ1 s1 H locs hp w => ?_)
  obtain ⟨z, rfl, rfl, hz, hs1⟩ := hp
  subst hs1
  refine W.eq (g2 := F0 m 378 ls [.int (iI z)]) rfl ?_
  refine lv_aload_n hex hb d_L_378 rfl (lv_at hl 1 rfl) ?_
  refine law_ld hF0 w.2.2.2.2.2.2.1 hl d_L_379 d_L_380 d_L_381 d_L_382 d_L_383 (j := i + 1) (by omega) (by omega) ?_
  rw [ha1]
  have T := s_address rwl g.gb rb hR1 (l := l) (D := D) (P := fun z2 q => z2 = z ∧ RW ΛR r q ∧ ∃ th2, RB ΛC c r th2 (σ) q) ⟨hz.symm, rwl, th, rb⟩
  refine callR w (va_runV (As := [.int (iI A1)]) (rest := [.int (iI z)]) ⟨hex, hb, hml, hown, hts⟩ (Ct.use T H.size) (cwV 1 hts (gdV bg_559 bg_560 bg_561 bg_4 bc_M_address) rfl rfl rfl hdV_M_address ⟨Nat.le_of_ble_eq_true rfl, Nat.le_of_ble_eq_true rfl⟩) (px_preV (ci := 4) hNW w.2.2.2.1 w.2.1 rwl.ly.1 rfl) rfl rfl hl.1 rfl (lv_room (Nat.le_of_ble_eq_true rfl)) d_L_384 ⟨(show cells + 0 + 0 ≤ 600000 by omega), (show slots + 0 + 0 ≤ 7302250 by omega)⟩) (fun v ΛR1 q H locs hp w => ?_)
  obtain ⟨z2, rfl, rfl, hz2, w2, th2, rb2⟩ := hp
  subst hz2
  refine W.eq (g2 := F0 m 387 ls [.int (iI z2), .int (iI z2)]) rfl ?_
  refine lv_icmp_eq (tgt := 584) hex hb d_L_387 rfl (fun _ => ?_) (fun hne => absurd rfl hne)
  exact W.widen (k := cells + 2) (n := slots + 10) (show cells + 0 + 0 ≤ cells + 2 by omega) (show slots + 0 + 0 ≤ slots + 10 by omega) (go _ _ _ _ _ _ w ⟨(g), fi, fj, w2, th2, rb2⟩)
theorem law_age {p : Program} {l : Launch} {e : Env} {s : State} {m : MethodId} {below : List Frame} {meth : Method} {c0 : Code} {b L : Nat} {xs : Nat → Int32} {D : va_G} {H : Heap} {locs : List Loc} {cells slots : Nat} {ls : Array Slot} {ΛC ΛR : Lam} {c r : Nat → Nat} {σ ρ : Mem} {i : Nat} (hF : LF p s m c0 b L xs) (w : WD D s ΛC σ ΛR ρ H locs) (jv : JV ΛC c σ ΛR r ρ) (hl : lv_has ls 4 [(3, .int (iI i)), (2, .ref (r 0)), (1, .ref (c 0)), (0, .ref b)]) (hi : i + 4 ≤ L) (hcs : cells + 2 ≤ 600000) (hss : slots + 10 ≤ 7302250) (go : ∀ ΛC' σ' ΛR' ρ' H' locs', WD D s ΛC' σ' ΛR' ρ' H' locs' → JV ΛC' c σ' ΛR' r ρ' → W p l e room_1 s m #[Value.ref b] below meth c0 H' locs' (cells + 2) (slots + 10) (lw_Z below #[Value.ref b] s) (F0 m 584 ls [])) : W p l e room_1 s m #[Value.ref b] below meth c0 H locs cells slots (lw_Z below #[Value.ref b] s) (F0 m 392 ls []) := by
  have hF0 := hF
  obtain ⟨hex, hb, hml, hown, hts, hX, hbl, hNW, hLL⟩ := hF
  obtain ⟨g, fi, fj, rwl, th, rb⟩ := jv
  refine lv_aload_n hex hb d_L_392 rfl (lv_at hl 2 rfl) ?_
  refine law_ld hF0 w.2.2.2.2.2.2.1 hl d_L_393 d_L_394 d_L_395 d_L_396 d_L_397 (j := i + 1) (by omega) (by omega) ?_
  have hR1 := rng_of (xs (i + 1))
  generalize ha1 : (xs (i + 1)).toInt = A1 at hR1 ⊢
  have T := c_H_age g.gb.wf hR1 (l := l) (D := D) (P := fun z s1 => z = fAgeOf c A1 σ ∧ σ = s1) ⟨rfl, rfl⟩
  refine callC w (va_runV (As := [.int (iI A1)]) (rest := []) ⟨hex, hb, hml, hown, hts⟩ (Ct.use T H.size) (cwV 1 hts (gdV bg_298 bg_299 bg_300 bg_1 bc_H_age) rfl rfl rfl hdV_H_age ⟨Nat.le_of_ble_eq_true rfl, Nat.le_of_ble_eq_true rfl⟩) (px_preV (ci := 3) hNW w.2.2.1 w.1 g.gb.wf.ly.1 rfl) rfl rfl hl.1 rfl (lv_room (Nat.le_of_ble_eq_true rfl)) d_L_398 ⟨(show cells + 0 ≤ 600000 by omega), (show slots + 0 ≤ 7302250 by omega)⟩) (fun v Λ1 s1 H locs hp w => ?_)
  obtain ⟨z, rfl, rfl, hz, hs1⟩ := hp
  subst hs1
  refine W.eq (g2 := F0 m 401 ls [.int (iI z)]) rfl ?_
  refine lv_aload_n hex hb d_L_401 rfl (lv_at hl 1 rfl) ?_
  refine law_ld hF0 w.2.2.2.2.2.2.1 hl d_L_402 d_L_403 d_L_404 d_L_405 d_L_406 (j := i + 1) (by omega) (by omega) ?_
  rw [ha1]
  have T := s_age rwl rb hR1 (l := l) (D := D) (P := fun z2 q => z2 = z ∧ RW ΛR r q ∧ ∃ th2, RB ΛC c r th2 (σ) q) ⟨hz.symm, rwl, th, rb⟩
  refine callR w (va_runV (As := [.int (iI A1)]) (rest := [.int (iI z)]) ⟨hex, hb, hml, hown, hts⟩ (Ct.use T H.size) (cwV 1 hts (gdV bg_563 bg_564 bg_565 bg_4 bc_M_age) rfl rfl rfl hdV_M_age ⟨Nat.le_of_ble_eq_true rfl, Nat.le_of_ble_eq_true rfl⟩) (px_preV (ci := 4) hNW w.2.2.2.1 w.2.1 rwl.ly.1 rfl) rfl rfl hl.1 rfl (lv_room (Nat.le_of_ble_eq_true rfl)) d_L_407 ⟨(show cells + 0 + 0 ≤ 600000 by omega), (show slots + 0 + 0 ≤ 7302250 by omega)⟩) (fun v ΛR1 q H locs hp w => ?_)
  obtain ⟨z2, rfl, rfl, hz2, w2, th2, rb2⟩ := hp
  subst hz2
  refine W.eq (g2 := F0 m 410 ls [.int (iI z2), .int (iI z2)]) rfl ?_
  refine lv_icmp_eq (tgt := 584) hex hb d_L_410 rfl (fun _ => ?_) (fun hne => absurd rfl hne)
  exact W.widen (k := cells + 2) (n := slots + 10) (show cells + 0 + 0 ≤ cells + 2 by omega) (show slots + 0 + 0 ≤ slots + 10 by omega) (go _ _ _ _ _ _ w ⟨(g), fi, fj, w2, th2, rb2⟩)
theorem law_collect {p : Program} {l : Launch} {e : Env} {s : State} {m : MethodId} {below : List Frame} {meth : Method} {c0 : Code} {b L : Nat} {xs : Nat → Int32} {D : va_G} {H : Heap} {locs : List Loc} {cells slots : Nat} {ls : Array Slot} {ΛC ΛR : Lam} {c r : Nat → Nat} {σ ρ : Mem} {i : Nat} (hF : LF p s m c0 b L xs) (w : WD D s ΛC σ ΛR ρ H locs) (jv : JV ΛC c σ ΛR r ρ) (hl : lv_has ls 4 [(3, .int (iI i)), (2, .ref (r 0)), (1, .ref (c 0)), (0, .ref b)]) (hi : i + 4 ≤ L) (hcs : cells + 2 ≤ 600000) (hss : slots + 10 ≤ 7302250) (go : ∀ ΛC' σ' ΛR' ρ' H' locs', WD D s ΛC' σ' ΛR' ρ' H' locs' → JV ΛC' c σ' ΛR' r ρ' → W p l e room_1 s m #[Value.ref b] below meth c0 H' locs' (cells + 2) (slots + 10) (lw_Z below #[Value.ref b] s) (F0 m 584 ls [])) : W p l e room_1 s m #[Value.ref b] below meth c0 H locs cells slots (lw_Z below #[Value.ref b] s) (F0 m 415 ls []) := by
  have hF0 := hF
  obtain ⟨hex, hb, hml, hown, hts, hX, hbl, hNW, hLL⟩ := hF
  obtain ⟨g, fi, fj, rwl, th, rb⟩ := jv
  refine lv_aload_n hex hb d_L_415 rfl (lv_at hl 2 rfl) ?_
  refine law_ld hF0 w.2.2.2.2.2.2.1 hl d_L_416 d_L_417 d_L_418 d_L_419 d_L_420 (j := i + 1) (by omega) (by omega) ?_
  refine law_bool hex hb (rng_of _) d_L_421 rfl d_L_424 d_L_425 rfl d_L_428 ?_
  have hB : rng (if (xs (i + 1)).toInt = 0 then (0 : Int) else 1) := ite_rng
  generalize ha1 : (if (xs (i + 1)).toInt = 0 then (0 : Int) else 1) = A1 at hB ⊢
  have T := c_H_collect g.gb.wf hB (l := l) (D := D) (P := fun z s1 => z = (if A1 = 0 then fYoung ΛC c σ else fAll ΛC c σ).1 ∧ (if A1 = 0 then fYoung ΛC c σ else fAll ΛC c σ).2 = s1) ⟨rfl, rfl⟩
  refine callC w (va_runV (As := [.int (iI A1)]) (rest := []) ⟨hex, hb, hml, hown, hts⟩ (Ct.use T H.size) (cwV 1 hts (gdV bg_302 bg_303 bg_304 bg_1 bc_H_collect) rfl rfl rfl hdV_H_collect ⟨Nat.le_of_ble_eq_true rfl, Nat.le_of_ble_eq_true rfl⟩) (px_preV (ci := 3) hNW w.2.2.1 w.1 g.gb.wf.ly.1 rfl) rfl rfl hl.1 rfl (lv_room (Nat.le_of_ble_eq_true rfl)) d_L_429 ⟨(show cells + 0 ≤ 600000 by omega), (show slots + 0 ≤ 7302250 by omega)⟩) (fun v Λ1 s1 H locs hp w => ?_)
  obtain ⟨z, rfl, rfl, hz, hs1⟩ := hp
  subst hs1
  refine W.eq (g2 := F0 m 432 ls [.int (iI z)]) rfl ?_
  refine lv_aload_n hex hb d_L_432 rfl (lv_at hl 1 rfl) ?_
  refine law_ld hF0 w.2.2.2.2.2.2.1 hl d_L_433 d_L_434 d_L_435 d_L_436 d_L_437 (j := i + 1) (by omega) (by omega) ?_
  refine law_bool hex hb (rng_of _) d_L_438 rfl d_L_441 d_L_442 rfl d_L_445 ?_
  rw [ha1]
  have T := s_collect rwl g rb hB (l := l) (D := D) (P := fun z2 q => z2 = z ∧ RW ΛR r q ∧ ∃ th2, RB ΛC c r th2 ((if A1 = 0 then fYoung ΛC c σ else fAll ΛC c σ).2) q) (fun th2 q w2 b2 => ⟨hz.symm, w2, th2, b2⟩)
  refine callR w (va_runV (As := [.int (iI A1)]) (rest := [.int (iI z)]) ⟨hex, hb, hml, hown, hts⟩ (Ct.use T H.size) (cwV 1 hts (gdV bg_460 bg_461 bg_462 bg_4 bc_M_collect) rfl rfl rfl hdV_M_collect ⟨Nat.le_of_ble_eq_true rfl, Nat.le_of_ble_eq_true rfl⟩) (px_preV (ci := 4) hNW w.2.2.2.1 w.2.1 rwl.ly.1 rfl) rfl rfl hl.1 rfl (lv_room (Nat.le_of_ble_eq_true rfl)) d_L_446 ⟨(show cells + 0 + 0 ≤ 600000 by omega), (show slots + 0 + 0 ≤ 7302250 by omega)⟩) (fun v ΛR1 q H locs hp w => ?_)
  obtain ⟨z2, rfl, rfl, hz2, w2, th2, rb2⟩ := hp
  subst hz2
  refine W.eq (g2 := F0 m 449 ls [.int (iI z2), .int (iI z2)]) rfl ?_
  refine lv_icmp_eq (tgt := 584) hex hb d_L_449 rfl (fun _ => ?_) (fun hne => absurd rfl hne)
  exact W.widen (k := cells + 2) (n := slots + 10) (show cells + 0 + 0 ≤ cells + 2 by omega) (show slots + 0 + 0 ≤ slots + 10 by omega) (go _ _ _ _ _ _ w ⟨(g.coll A1), fi, fj, w2, th2, rb2⟩)
theorem law_begin {p : Program} {l : Launch} {e : Env} {s : State} {m : MethodId} {below : List Frame} {meth : Method} {c0 : Code} {b L : Nat} {xs : Nat → Int32} {D : va_G} {H : Heap} {locs : List Loc} {cells slots : Nat} {ls : Array Slot} {ΛC ΛR : Lam} {c r : Nat → Nat} {σ ρ : Mem} {i : Nat} (hF : LF p s m c0 b L xs) (w : WD D s ΛC σ ΛR ρ H locs) (jv : JV ΛC c σ ΛR r ρ) (hl : lv_has ls 4 [(3, .int (iI i)), (2, .ref (r 0)), (1, .ref (c 0)), (0, .ref b)]) (hi : i + 4 ≤ L) (hcs : cells + 2 ≤ 600000) (hss : slots + 10 ≤ 7302250) (go : ∀ ΛC' σ' ΛR' ρ' H' locs', WD D s ΛC' σ' ΛR' ρ' H' locs' → JV ΛC' c σ' ΛR' r ρ' → W p l e room_1 s m #[Value.ref b] below meth c0 H' locs' (cells + 2) (slots + 10) (lw_Z below #[Value.ref b] s) (F0 m 584 ls [])) : W p l e room_1 s m #[Value.ref b] below meth c0 H locs cells slots (lw_Z below #[Value.ref b] s) (F0 m 454 ls []) := by
  have hF0 := hF
  obtain ⟨hex, hb, hml, hown, hts, hX, hbl, hNW, hLL⟩ := hF
  obtain ⟨g, fi, fj, rwl, th, rb⟩ := jv
  refine lv_aload_n hex hb d_L_454 rfl (lv_at hl 2 rfl) ?_
  have T := c_H_begin g.gb.wf (l := l) (D := D) (P := fun z s1 => z = (fBegin c σ).1 ∧ (fBegin c σ).2 = s1) ⟨rfl, rfl⟩
  refine callC w (va_runV (As := []) (rest := []) ⟨hex, hb, hml, hown, hts⟩ (Ct.use T H.size) (cwV 0 hts (gdV bg_306 bg_307 bg_308 bg_1 bc_H_begin) rfl rfl rfl hdV_H_begin ⟨Nat.le_of_ble_eq_true rfl, Nat.le_of_ble_eq_true rfl⟩) (px_preV (ci := 3) hNW w.2.2.1 w.1 g.gb.wf.ly.1 rfl) rfl rfl hl.1 rfl (lv_room (Nat.le_of_ble_eq_true rfl)) d_L_455 ⟨(show cells + 0 ≤ 600000 by omega), (show slots + 0 ≤ 7302250 by omega)⟩) (fun v Λ1 s1 H locs hp w => ?_)
  obtain ⟨z, rfl, rfl, hz, hs1⟩ := hp
  subst hs1
  refine W.eq (g2 := F0 m 458 ls [.int (iI z)]) rfl ?_
  refine lv_aload_n hex hb d_L_458 rfl (lv_at hl 1 rfl) ?_
  have T := s_begin rwl g.gb rb (l := l) (D := D) (P := fun z2 q => z2 = z ∧ RW ΛR r q ∧ ∃ th2, RB ΛC c r th2 ((fBegin c σ).2) q) (fun q w2 b2 => ⟨hz.symm, w2, th, b2⟩)
  refine callR w (va_runV (As := []) (rest := [.int (iI z)]) ⟨hex, hb, hml, hown, hts⟩ (Ct.use T H.size) (cwV 0 hts (gdV bg_567 bg_568 bg_569 bg_4 bc_M_begin) rfl rfl rfl hdV_M_begin ⟨Nat.le_of_ble_eq_true rfl, Nat.le_of_ble_eq_true rfl⟩) (px_preV (ci := 4) hNW w.2.2.2.1 w.2.1 rwl.ly.1 rfl) rfl rfl hl.1 rfl (lv_room (Nat.le_of_ble_eq_true rfl)) d_L_459 ⟨(show cells + 0 + 0 ≤ 600000 by omega), (show slots + 0 + 0 ≤ 7302250 by omega)⟩) (fun v ΛR1 q H locs hp w => ?_)
  obtain ⟨z2, rfl, rfl, hz2, w2, th2, rb2⟩ := hp
  subst hz2
  refine W.eq (g2 := F0 m 462 ls [.int (iI z2), .int (iI z2)]) rfl ?_
  refine lv_icmp_eq (tgt := 584) hex hb d_L_462 rfl (fun _ => ?_) (fun hne => absurd rfl hne)
  exact W.widen (k := cells + 2) (n := slots + 10) (show cells + 0 + 0 ≤ cells + 2 by omega) (show slots + 0 + 0 ≤ slots + 10 by omega) (go _ _ _ _ _ _ w ⟨(g.begin), fi, fj, w2, th2, rb2⟩)
theorem law_mark {p : Program} {l : Launch} {e : Env} {s : State} {m : MethodId} {below : List Frame} {meth : Method} {c0 : Code} {b L : Nat} {xs : Nat → Int32} {D : va_G} {H : Heap} {locs : List Loc} {cells slots : Nat} {ls : Array Slot} {ΛC ΛR : Lam} {c r : Nat → Nat} {σ ρ : Mem} {i : Nat} (hF : LF p s m c0 b L xs) (w : WD D s ΛC σ ΛR ρ H locs) (jv : JV ΛC c σ ΛR r ρ) (hl : lv_has ls 4 [(3, .int (iI i)), (2, .ref (r 0)), (1, .ref (c 0)), (0, .ref b)]) (hi : i + 4 ≤ L) (hcs : cells + 2 ≤ 600000) (hss : slots + 10 ≤ 7302250) (go : ∀ ΛC' σ' ΛR' ρ' H' locs', WD D s ΛC' σ' ΛR' ρ' H' locs' → JV ΛC' c σ' ΛR' r ρ' → W p l e room_1 s m #[Value.ref b] below meth c0 H' locs' (cells + 2) (slots + 10) (lw_Z below #[Value.ref b] s) (F0 m 584 ls [])) : W p l e room_1 s m #[Value.ref b] below meth c0 H locs cells slots (lw_Z below #[Value.ref b] s) (F0 m 467 ls []) := by
  have hF0 := hF
  obtain ⟨hex, hb, hml, hown, hts, hX, hbl, hNW, hLL⟩ := hF
  obtain ⟨g, fi, fj, rwl, th, rb⟩ := jv
  refine lv_aload_n hex hb d_L_467 rfl (lv_at hl 2 rfl) ?_
  have T := c_H_mark g.gb.wf (l := l) (D := D) (P := fun z s1 => z = (fMark ΛC c σ).1 ∧ (fMark ΛC c σ).2 = s1) ⟨rfl, rfl⟩
  refine callC w (va_runV (As := []) (rest := []) ⟨hex, hb, hml, hown, hts⟩ (Ct.use T H.size) (cwV 0 hts (gdV bg_317 bg_318 bg_319 bg_1 bc_H_mark) rfl rfl rfl hdV_H_mark ⟨Nat.le_of_ble_eq_true rfl, Nat.le_of_ble_eq_true rfl⟩) (px_preV (ci := 3) hNW w.2.2.1 w.1 g.gb.wf.ly.1 rfl) rfl rfl hl.1 rfl (lv_room (Nat.le_of_ble_eq_true rfl)) d_L_468 ⟨(show cells + 0 ≤ 600000 by omega), (show slots + 0 ≤ 7302250 by omega)⟩) (fun v Λ1 s1 H locs hp w => ?_)
  obtain ⟨z, rfl, rfl, hz, hs1⟩ := hp
  subst hs1
  refine W.eq (g2 := F0 m 471 ls [.int (iI z)]) rfl ?_
  refine lv_aload_n hex hb d_L_471 rfl (lv_at hl 1 rfl) ?_
  have T := s_mark rwl g.gb rb (l := l) (D := D) (P := fun z2 q => z2 = z ∧ RW ΛR r q ∧ ∃ th2, RB ΛC c r th2 ((fMark ΛC c σ).2) q) (fun q w2 b2 => ⟨hz.symm, w2, th, b2⟩)
  refine callR w (va_runV (As := []) (rest := [.int (iI z)]) ⟨hex, hb, hml, hown, hts⟩ (Ct.use T H.size) (cwV 0 hts (gdV bg_575 bg_576 bg_577 bg_4 bc_M_mark) rfl rfl rfl hdV_M_mark ⟨Nat.le_of_ble_eq_true rfl, Nat.le_of_ble_eq_true rfl⟩) (px_preV (ci := 4) hNW w.2.2.2.1 w.2.1 rwl.ly.1 rfl) rfl rfl hl.1 rfl (lv_room (Nat.le_of_ble_eq_true rfl)) d_L_472 ⟨(show cells + 0 + 0 ≤ 600000 by omega), (show slots + 0 + 0 ≤ 7302250 by omega)⟩) (fun v ΛR1 q H locs hp w => ?_)
  obtain ⟨z2, rfl, rfl, hz2, w2, th2, rb2⟩ := hp
  subst hz2
  refine W.eq (g2 := F0 m 475 ls [.int (iI z2), .int (iI z2)]) rfl ?_
  refine lv_icmp_eq (tgt := 584) hex hb d_L_475 rfl (fun _ => ?_) (fun hne => absurd rfl hne)
  exact W.widen (k := cells + 2) (n := slots + 10) (show cells + 0 + 0 ≤ cells + 2 by omega) (show slots + 0 + 0 ≤ slots + 10 by omega) (go _ _ _ _ _ _ w ⟨(g.mark), fi, fj, w2, th2, rb2⟩)
theorem law_preclean {p : Program} {l : Launch} {e : Env} {s : State} {m : MethodId} {below : List Frame} {meth : Method} {c0 : Code} {b L : Nat} {xs : Nat → Int32} {D : va_G} {H : Heap} {locs : List Loc} {cells slots : Nat} {ls : Array Slot} {ΛC ΛR : Lam} {c r : Nat → Nat} {σ ρ : Mem} {i : Nat} (hF : LF p s m c0 b L xs) (w : WD D s ΛC σ ΛR ρ H locs) (jv : JV ΛC c σ ΛR r ρ) (hl : lv_has ls 4 [(3, .int (iI i)), (2, .ref (r 0)), (1, .ref (c 0)), (0, .ref b)]) (hi : i + 4 ≤ L) (hcs : cells + 2 ≤ 600000) (hss : slots + 10 ≤ 7302250) (go : ∀ ΛC' σ' ΛR' ρ' H' locs', WD D s ΛC' σ' ΛR' ρ' H' locs' → JV ΛC' c σ' ΛR' r ρ' → W p l e room_1 s m #[Value.ref b] below meth c0 H' locs' (cells + 2) (slots + 10) (lw_Z below #[Value.ref b] s) (F0 m 584 ls [])) : W p l e room_1 s m #[Value.ref b] below meth c0 H locs cells slots (lw_Z below #[Value.ref b] s) (F0 m 480 ls []) := by
  have hF0 := hF
  obtain ⟨hex, hb, hml, hown, hts, hX, hbl, hNW, hLL⟩ := hF
  obtain ⟨g, fi, fj, rwl, th, rb⟩ := jv
  refine lv_aload_n hex hb d_L_480 rfl (lv_at hl 2 rfl) ?_
  have T := c_H_preclean g.gb.wf (l := l) (D := D) (P := fun z s1 => z = (fPre c σ).1 ∧ (fPre c σ).2 = s1) ⟨rfl, rfl⟩
  refine callC w (va_runV (As := []) (rest := []) ⟨hex, hb, hml, hown, hts⟩ (Ct.use T H.size) (cwV 0 hts (gdV bg_331 bg_332 bg_333 bg_1 bc_H_preclean) rfl rfl rfl hdV_H_preclean ⟨Nat.le_of_ble_eq_true rfl, Nat.le_of_ble_eq_true rfl⟩) (px_preV (ci := 3) hNW w.2.2.1 w.1 g.gb.wf.ly.1 rfl) rfl rfl hl.1 rfl (lv_room (Nat.le_of_ble_eq_true rfl)) d_L_481 ⟨(show cells + 0 ≤ 600000 by omega), (show slots + 0 ≤ 7302250 by omega)⟩) (fun v Λ1 s1 H locs hp w => ?_)
  obtain ⟨z, rfl, rfl, hz, hs1⟩ := hp
  subst hs1
  refine W.eq (g2 := F0 m 484 ls [.int (iI z)]) rfl ?_
  refine lv_aload_n hex hb d_L_484 rfl (lv_at hl 1 rfl) ?_
  have T := s_preclean rwl g.gb rb (l := l) (D := D) (P := fun z2 q => z2 = z ∧ RW ΛR r q ∧ ∃ th2, RB ΛC c r th2 ((fPre c σ).2) q) (fun q w2 b2 => ⟨hz.symm, w2, th, b2⟩)
  refine callR w (va_runV (As := []) (rest := [.int (iI z)]) ⟨hex, hb, hml, hown, hts⟩ (Ct.use T H.size) (cwV 0 hts (gdV bg_587 bg_588 bg_589 bg_4 bc_M_preclean) rfl rfl rfl hdV_M_preclean ⟨Nat.le_of_ble_eq_true rfl, Nat.le_of_ble_eq_true rfl⟩) (px_preV (ci := 4) hNW w.2.2.2.1 w.2.1 rwl.ly.1 rfl) rfl rfl hl.1 rfl (lv_room (Nat.le_of_ble_eq_true rfl)) d_L_485 ⟨(show cells + 0 + 0 ≤ 600000 by omega), (show slots + 0 + 0 ≤ 7302250 by omega)⟩) (fun v ΛR1 q H locs hp w => ?_)
  obtain ⟨z2, rfl, rfl, hz2, w2, th2, rb2⟩ := hp
  subst hz2
  refine W.eq (g2 := F0 m 488 ls [.int (iI z2), .int (iI z2)]) rfl ?_
  refine lv_icmp_eq (tgt := 584) hex hb d_L_488 rfl (fun _ => ?_) (fun hne => absurd rfl hne)
  exact W.widen (k := cells + 2) (n := slots + 10) (show cells + 0 + 0 ≤ cells + 2 by omega) (show slots + 0 + 0 ≤ slots + 10 by omega) (go _ _ _ _ _ _ w ⟨(g.preclean), fi, fj, w2, th2, rb2⟩)
theorem law_remark {p : Program} {l : Launch} {e : Env} {s : State} {m : MethodId} {below : List Frame} {meth : Method} {c0 : Code} {b L : Nat} {xs : Nat → Int32} {D : va_G} {H : Heap} {locs : List Loc} {cells slots : Nat} {ls : Array Slot} {ΛC ΛR : Lam} {c r : Nat → Nat} {σ ρ : Mem} {i : Nat} (hF : LF p s m c0 b L xs) (w : WD D s ΛC σ ΛR ρ H locs) (jv : JV ΛC c σ ΛR r ρ) (hl : lv_has ls 4 [(3, .int (iI i)), (2, .ref (r 0)), (1, .ref (c 0)), (0, .ref b)]) (hi : i + 4 ≤ L) (hcs : cells + 2 ≤ 600000) (hss : slots + 10 ≤ 7302250) (go : ∀ ΛC' σ' ΛR' ρ' H' locs', WD D s ΛC' σ' ΛR' ρ' H' locs' → JV ΛC' c σ' ΛR' r ρ' → W p l e room_1 s m #[Value.ref b] below meth c0 H' locs' (cells + 2) (slots + 10) (lw_Z below #[Value.ref b] s) (F0 m 584 ls [])) : W p l e room_1 s m #[Value.ref b] below meth c0 H locs cells slots (lw_Z below #[Value.ref b] s) (F0 m 493 ls []) := by
  have hF0 := hF
  obtain ⟨hex, hb, hml, hown, hts, hX, hbl, hNW, hLL⟩ := hF
  obtain ⟨g, fi, fj, rwl, th, rb⟩ := jv
  refine lv_aload_n hex hb d_L_493 rfl (lv_at hl 2 rfl) ?_
  have T := c_H_remark g.gb.wf (l := l) (D := D) (P := fun z s1 => z = (fRemark ΛC c σ).1 ∧ (fRemark ΛC c σ).2 = s1) ⟨rfl, rfl⟩
  refine callC w (va_runV (As := []) (rest := []) ⟨hex, hb, hml, hown, hts⟩ (Ct.use T H.size) (cwV 0 hts (gdV bg_339 bg_340 bg_341 bg_1 bc_H_remark) rfl rfl rfl hdV_H_remark ⟨Nat.le_of_ble_eq_true rfl, Nat.le_of_ble_eq_true rfl⟩) (px_preV (ci := 3) hNW w.2.2.1 w.1 g.gb.wf.ly.1 rfl) rfl rfl hl.1 rfl (lv_room (Nat.le_of_ble_eq_true rfl)) d_L_494 ⟨(show cells + 0 ≤ 600000 by omega), (show slots + 0 ≤ 7302250 by omega)⟩) (fun v Λ1 s1 H locs hp w => ?_)
  obtain ⟨z, rfl, rfl, hz, hs1⟩ := hp
  subst hs1
  refine W.eq (g2 := F0 m 497 ls [.int (iI z)]) rfl ?_
  refine lv_aload_n hex hb d_L_497 rfl (lv_at hl 1 rfl) ?_
  have T := s_remark rwl g rb (l := l) (D := D) (P := fun z2 q => z2 = z ∧ RW ΛR r q ∧ ∃ th2, RB ΛC c r th2 ((fRemark ΛC c σ).2) q) (fun q w2 b2 => ⟨hz.symm, w2, th, b2⟩)
  refine callR w (va_runV (As := []) (rest := [.int (iI z)]) ⟨hex, hb, hml, hown, hts⟩ (Ct.use T H.size) (cwV 0 hts (gdV bg_595 bg_596 bg_597 bg_4 bc_M_remark) rfl rfl rfl hdV_M_remark ⟨Nat.le_of_ble_eq_true rfl, Nat.le_of_ble_eq_true rfl⟩) (px_preV (ci := 4) hNW w.2.2.2.1 w.2.1 rwl.ly.1 rfl) rfl rfl hl.1 rfl (lv_room (Nat.le_of_ble_eq_true rfl)) d_L_498 ⟨(show cells + 0 + 0 ≤ 600000 by omega), (show slots + 0 + 0 ≤ 7302250 by omega)⟩) (fun v ΛR1 q H locs hp w => ?_)
  obtain ⟨z2, rfl, rfl, hz2, w2, th2, rb2⟩ := hp
  subst hz2
  refine W.eq (g2 := F0 m 501 ls [.int (iI z2), .int (iI z2)]) rfl ?_
  refine lv_icmp_eq (tgt := 584) hex hb d_L_501 rfl (fun _ => ?_) (fun hne => absurd rfl hne)
  exact W.widen (k := cells + 2) (n := slots + 10) (show cells + 0 + 0 ≤ cells + 2 by omega) (show slots + 0 + 0 ≤ slots + 10 by omega) (go _ _ _ _ _ _ w ⟨(g.remark), fi, fj, w2, th2, rb2⟩)
theorem law_sweep {p : Program} {l : Launch} {e : Env} {s : State} {m : MethodId} {below : List Frame} {meth : Method} {c0 : Code} {b L : Nat} {xs : Nat → Int32} {D : va_G} {H : Heap} {locs : List Loc} {cells slots : Nat} {ls : Array Slot} {ΛC ΛR : Lam} {c r : Nat → Nat} {σ ρ : Mem} {i : Nat} (hF : LF p s m c0 b L xs) (w : WD D s ΛC σ ΛR ρ H locs) (jv : JV ΛC c σ ΛR r ρ) (hl : lv_has ls 4 [(3, .int (iI i)), (2, .ref (r 0)), (1, .ref (c 0)), (0, .ref b)]) (hi : i + 4 ≤ L) (hcs : cells + 2 ≤ 600000) (hss : slots + 10 ≤ 7302250) (go : ∀ ΛC' σ' ΛR' ρ' H' locs', WD D s ΛC' σ' ΛR' ρ' H' locs' → JV ΛC' c σ' ΛR' r ρ' → W p l e room_1 s m #[Value.ref b] below meth c0 H' locs' (cells + 2) (slots + 10) (lw_Z below #[Value.ref b] s) (F0 m 584 ls [])) : W p l e room_1 s m #[Value.ref b] below meth c0 H locs cells slots (lw_Z below #[Value.ref b] s) (F0 m 506 ls []) := by
  have hF0 := hF
  obtain ⟨hex, hb, hml, hown, hts, hX, hbl, hNW, hLL⟩ := hF
  obtain ⟨g, fi, fj, rwl, th, rb⟩ := jv
  refine lv_aload_n hex hb d_L_506 rfl (lv_at hl 2 rfl) ?_
  have T := c_H_sweep g.gb.wf g.gb.sw (l := l) (D := D) (P := fun z s1 => z = (fSweep ΛC c σ).1 ∧ (fSweep ΛC c σ).2 = s1) ⟨rfl, rfl⟩
  refine callC w (va_runV (As := []) (rest := []) ⟨hex, hb, hml, hown, hts⟩ (Ct.use T H.size) (cwV 0 hts (gdV bg_351 bg_352 bg_353 bg_1 bc_H_sweep) rfl rfl rfl hdV_H_sweep ⟨Nat.le_of_ble_eq_true rfl, Nat.le_of_ble_eq_true rfl⟩) (px_preV (ci := 3) hNW w.2.2.1 w.1 g.gb.wf.ly.1 rfl) rfl rfl hl.1 rfl (lv_room (Nat.le_of_ble_eq_true rfl)) d_L_507 ⟨(show cells + 0 ≤ 600000 by omega), (show slots + 0 ≤ 7302250 by omega)⟩) (fun v Λ1 s1 H locs hp w => ?_)
  obtain ⟨z, rfl, rfl, hz, hs1⟩ := hp
  subst hs1
  refine W.eq (g2 := F0 m 510 ls [.int (iI z)]) rfl ?_
  refine lv_aload_n hex hb d_L_510 rfl (lv_at hl 1 rfl) ?_
  have T := s_sweep rwl g rb (l := l) (D := D) (P := fun z2 q => z2 = z ∧ RW ΛR r q ∧ ∃ th2, RB ΛC c r th2 ((fSweep ΛC c σ).2) q) (fun th2 q w2 b2 => ⟨hz.symm, w2, th2, b2⟩)
  refine callR w (va_runV (As := []) (rest := [.int (iI z)]) ⟨hex, hb, hml, hown, hts⟩ (Ct.use T H.size) (cwV 0 hts (gdV bg_599 bg_600 bg_601 bg_4 bc_M_sweep) rfl rfl rfl hdV_M_sweep ⟨Nat.le_of_ble_eq_true rfl, Nat.le_of_ble_eq_true rfl⟩) (px_preV (ci := 4) hNW w.2.2.2.1 w.2.1 rwl.ly.1 rfl) rfl rfl hl.1 rfl (lv_room (Nat.le_of_ble_eq_true rfl)) d_L_511 ⟨(show cells + 0 + 0 ≤ 600000 by omega), (show slots + 0 + 0 ≤ 7302250 by omega)⟩) (fun v ΛR1 q H locs hp w => ?_)
  obtain ⟨z2, rfl, rfl, hz2, w2, th2, rb2⟩ := hp
  subst hz2
  refine W.eq (g2 := F0 m 514 ls [.int (iI z2), .int (iI z2)]) rfl ?_
  refine lv_icmp_eq (tgt := 584) hex hb d_L_514 rfl (fun _ => ?_) (fun hne => absurd rfl hne)
  exact W.widen (k := cells + 2) (n := slots + 10) (show cells + 0 + 0 ≤ cells + 2 by omega) (show slots + 0 + 0 ≤ slots + 10 by omega) (go _ _ _ _ _ _ w ⟨(g.sweep), fi, fj, w2, th2, rb2⟩)
theorem law_phase {p : Program} {l : Launch} {e : Env} {s : State} {m : MethodId} {below : List Frame} {meth : Method} {c0 : Code} {b L : Nat} {xs : Nat → Int32} {D : va_G} {H : Heap} {locs : List Loc} {cells slots : Nat} {ls : Array Slot} {ΛC ΛR : Lam} {c r : Nat → Nat} {σ ρ : Mem} {i : Nat} (hF : LF p s m c0 b L xs) (w : WD D s ΛC σ ΛR ρ H locs) (jv : JV ΛC c σ ΛR r ρ) (hl : lv_has ls 4 [(3, .int (iI i)), (2, .ref (r 0)), (1, .ref (c 0)), (0, .ref b)]) (hi : i + 4 ≤ L) (hcs : cells + 2 ≤ 600000) (hss : slots + 10 ≤ 7302250) (go : ∀ ΛC' σ' ΛR' ρ' H' locs', WD D s ΛC' σ' ΛR' ρ' H' locs' → JV ΛC' c σ' ΛR' r ρ' → W p l e room_1 s m #[Value.ref b] below meth c0 H' locs' (cells + 2) (slots + 10) (lw_Z below #[Value.ref b] s) (F0 m 584 ls [])) : W p l e room_1 s m #[Value.ref b] below meth c0 H locs cells slots (lw_Z below #[Value.ref b] s) (F0 m 519 ls []) := by
  have hF0 := hF
  obtain ⟨hex, hb, hml, hown, hts, hX, hbl, hNW, hLL⟩ := hF
  obtain ⟨g, fi, fj, rwl, th, rb⟩ := jv
  refine lv_aload_n hex hb d_L_519 rfl (lv_at hl 2 rfl) ?_
  have T := c_H_phase g.gb.wf.ly (l := l) (D := D) (P := fun z s1 => z = σ.1 306 (c 0) ∧ σ = s1) ⟨rfl, rfl⟩
  refine callC w (va_runV (As := []) (rest := []) ⟨hex, hb, hml, hown, hts⟩ (Ct.use T H.size) (cwV 0 hts (gdV bg_360 bg_361 bg_362 bg_1 bc_H_phase) rfl rfl rfl hdV_H_phase ⟨Nat.le_of_ble_eq_true rfl, Nat.le_of_ble_eq_true rfl⟩) (px_preV (ci := 3) hNW w.2.2.1 w.1 g.gb.wf.ly.1 rfl) rfl rfl hl.1 rfl (lv_room (Nat.le_of_ble_eq_true rfl)) d_L_520 ⟨(show cells + 0 ≤ 600000 by omega), (show slots + 0 ≤ 7302250 by omega)⟩) (fun v Λ1 s1 H locs hp w => ?_)
  obtain ⟨z, rfl, rfl, hz, hs1⟩ := hp
  subst hs1
  refine W.eq (g2 := F0 m 523 ls [.int (iI z)]) rfl ?_
  refine lv_aload_n hex hb d_L_523 rfl (lv_at hl 1 rfl) ?_
  have T := s_phase rwl rb (l := l) (D := D) (P := fun z2 q => z2 = z ∧ RW ΛR r q ∧ ∃ th2, RB ΛC c r th2 (σ) q) ⟨hz.symm, rwl, th, rb⟩
  refine callR w (va_runV (As := []) (rest := [.int (iI z)]) ⟨hex, hb, hml, hown, hts⟩ (Ct.use T H.size) (cwV 0 hts (gdV bg_603 bg_604 bg_605 bg_4 bc_M_phase) rfl rfl rfl hdV_M_phase ⟨Nat.le_of_ble_eq_true rfl, Nat.le_of_ble_eq_true rfl⟩) (px_preV (ci := 4) hNW w.2.2.2.1 w.2.1 rwl.ly.1 rfl) rfl rfl hl.1 rfl (lv_room (Nat.le_of_ble_eq_true rfl)) d_L_524 ⟨(show cells + 0 + 0 ≤ 600000 by omega), (show slots + 0 + 0 ≤ 7302250 by omega)⟩) (fun v ΛR1 q H locs hp w => ?_)
  obtain ⟨z2, rfl, rfl, hz2, w2, th2, rb2⟩ := hp
  subst hz2
  refine W.eq (g2 := F0 m 527 ls [.int (iI z2), .int (iI z2)]) rfl ?_
  refine lv_icmp_eq (tgt := 584) hex hb d_L_527 rfl (fun _ => ?_) (fun hne => absurd rfl hne)
  exact W.widen (k := cells + 2) (n := slots + 10) (show cells + 0 + 0 ≤ cells + 2 by omega) (show slots + 0 + 0 ≤ slots + 10 by omega) (go _ _ _ _ _ _ w ⟨(g), fi, fj, w2, th2, rb2⟩)
theorem law_oldCells {p : Program} {l : Launch} {e : Env} {s : State} {m : MethodId} {below : List Frame} {meth : Method} {c0 : Code} {b L : Nat} {xs : Nat → Int32} {D : va_G} {H : Heap} {locs : List Loc} {cells slots : Nat} {ls : Array Slot} {ΛC ΛR : Lam} {c r : Nat → Nat} {σ ρ : Mem} {i : Nat} (hF : LF p s m c0 b L xs) (w : WD D s ΛC σ ΛR ρ H locs) (jv : JV ΛC c σ ΛR r ρ) (hl : lv_has ls 4 [(3, .int (iI i)), (2, .ref (r 0)), (1, .ref (c 0)), (0, .ref b)]) (hi : i + 4 ≤ L) (hcs : cells + 2 ≤ 600000) (hss : slots + 10 ≤ 7302250) (go : ∀ ΛC' σ' ΛR' ρ' H' locs', WD D s ΛC' σ' ΛR' ρ' H' locs' → JV ΛC' c σ' ΛR' r ρ' → W p l e room_1 s m #[Value.ref b] below meth c0 H' locs' (cells + 2) (slots + 10) (lw_Z below #[Value.ref b] s) (F0 m 584 ls [])) : W p l e room_1 s m #[Value.ref b] below meth c0 H locs cells slots (lw_Z below #[Value.ref b] s) (F0 m 532 ls []) := by
  have hF0 := hF
  obtain ⟨hex, hb, hml, hown, hts, hX, hbl, hNW, hLL⟩ := hF
  obtain ⟨g, fi, fj, rwl, th, rb⟩ := jv
  refine lv_aload_n hex hb d_L_532 rfl (lv_at hl 2 rfl) ?_
  have T := c_H_oldCells g.gb.wf.ly (l := l) (D := D) (P := fun z s1 => z = fOldCells c σ ∧ σ = s1) ⟨rfl, rfl⟩
  refine callC w (va_runV (As := []) (rest := []) ⟨hex, hb, hml, hown, hts⟩ (Ct.use T H.size) (cwV 0 hts (gdV bg_364 bg_365 bg_366 bg_1 bc_H_oldCells) rfl rfl rfl hdV_H_oldCells ⟨Nat.le_of_ble_eq_true rfl, Nat.le_of_ble_eq_true rfl⟩) (px_preV (ci := 3) hNW w.2.2.1 w.1 g.gb.wf.ly.1 rfl) rfl rfl hl.1 rfl (lv_room (Nat.le_of_ble_eq_true rfl)) d_L_533 ⟨(show cells + 0 ≤ 600000 by omega), (show slots + 0 ≤ 7302250 by omega)⟩) (fun v Λ1 s1 H locs hp w => ?_)
  obtain ⟨z, rfl, rfl, hz, hs1⟩ := hp
  subst hs1
  refine W.eq (g2 := F0 m 536 ls [.int (iI z)]) rfl ?_
  refine lv_aload_n hex hb d_L_536 rfl (lv_at hl 1 rfl) ?_
  have T := s_oldCells rwl g.gb rb (l := l) (D := D) (P := fun z2 q => z2 = z ∧ RW ΛR r q ∧ ∃ th2, RB ΛC c r th2 (σ) q) ⟨hz.symm, rwl, th, rb⟩
  refine callR w (va_runV (As := []) (rest := [.int (iI z)]) ⟨hex, hb, hml, hown, hts⟩ (Ct.use T H.size) (cwV 0 hts (gdV bg_607 bg_608 bg_609 bg_4 bc_M_oldCells) rfl rfl rfl hdV_M_oldCells ⟨Nat.le_of_ble_eq_true rfl, Nat.le_of_ble_eq_true rfl⟩) (px_preV (ci := 4) hNW w.2.2.2.1 w.2.1 rwl.ly.1 rfl) rfl rfl hl.1 rfl (lv_room (Nat.le_of_ble_eq_true rfl)) d_L_537 ⟨(show cells + 0 + 0 ≤ 600000 by omega), (show slots + 0 + 0 ≤ 7302250 by omega)⟩) (fun v ΛR1 q H locs hp w => ?_)
  obtain ⟨z2, rfl, rfl, hz2, w2, th2, rb2⟩ := hp
  subst hz2
  refine W.eq (g2 := F0 m 540 ls [.int (iI z2), .int (iI z2)]) rfl ?_
  refine lv_icmp_eq (tgt := 584) hex hb d_L_540 rfl (fun _ => ?_) (fun hne => absurd rfl hne)
  exact W.widen (k := cells + 2) (n := slots + 10) (show cells + 0 + 0 ≤ cells + 2 by omega) (show slots + 0 + 0 ≤ slots + 10 by omega) (go _ _ _ _ _ _ w ⟨(g), fi, fj, w2, th2, rb2⟩)
theorem law_youngCells {p : Program} {l : Launch} {e : Env} {s : State} {m : MethodId} {below : List Frame} {meth : Method} {c0 : Code} {b L : Nat} {xs : Nat → Int32} {D : va_G} {H : Heap} {locs : List Loc} {cells slots : Nat} {ls : Array Slot} {ΛC ΛR : Lam} {c r : Nat → Nat} {σ ρ : Mem} {i : Nat} (hF : LF p s m c0 b L xs) (w : WD D s ΛC σ ΛR ρ H locs) (jv : JV ΛC c σ ΛR r ρ) (hl : lv_has ls 4 [(3, .int (iI i)), (2, .ref (r 0)), (1, .ref (c 0)), (0, .ref b)]) (hi : i + 4 ≤ L) (hcs : cells + 2 ≤ 600000) (hss : slots + 10 ≤ 7302250) (go : ∀ ΛC' σ' ΛR' ρ' H' locs', WD D s ΛC' σ' ΛR' ρ' H' locs' → JV ΛC' c σ' ΛR' r ρ' → W p l e room_1 s m #[Value.ref b] below meth c0 H' locs' (cells + 2) (slots + 10) (lw_Z below #[Value.ref b] s) (F0 m 584 ls [])) : W p l e room_1 s m #[Value.ref b] below meth c0 H locs cells slots (lw_Z below #[Value.ref b] s) (F0 m 545 ls []) := by
  have hF0 := hF
  obtain ⟨hex, hb, hml, hown, hts, hX, hbl, hNW, hLL⟩ := hF
  obtain ⟨g, fi, fj, rwl, th, rb⟩ := jv
  refine lv_aload_n hex hb d_L_545 rfl (lv_at hl 2 rfl) ?_
  have T := c_H_youngCells g.gb.wf (l := l) (D := D) (P := fun z s1 => z = fTaken ΛC (c 2) (c 3) σ ∧ σ = s1) ⟨rfl, rfl⟩
  refine callC w (va_runV (As := []) (rest := []) ⟨hex, hb, hml, hown, hts⟩ (Ct.use T H.size) (cwV 0 hts (gdV bg_372 bg_373 bg_374 bg_1 bc_H_youngCells) rfl rfl rfl hdV_H_youngCells ⟨Nat.le_of_ble_eq_true rfl, Nat.le_of_ble_eq_true rfl⟩) (px_preV (ci := 3) hNW w.2.2.1 w.1 g.gb.wf.ly.1 rfl) rfl rfl hl.1 rfl (lv_room (Nat.le_of_ble_eq_true rfl)) d_L_546 ⟨(show cells + 0 ≤ 600000 by omega), (show slots + 0 ≤ 7302250 by omega)⟩) (fun v Λ1 s1 H locs hp w => ?_)
  obtain ⟨z, rfl, rfl, hz, hs1⟩ := hp
  subst hs1
  refine W.eq (g2 := F0 m 549 ls [.int (iI z)]) rfl ?_
  refine lv_aload_n hex hb d_L_549 rfl (lv_at hl 1 rfl) ?_
  have T := s_youngCells rwl g rb (l := l) (D := D) (P := fun z2 q => z2 = z ∧ RW ΛR r q ∧ ∃ th2, RB ΛC c r th2 (σ) q) ⟨hz.symm, rwl, th, rb⟩
  refine callR w (va_runV (As := []) (rest := [.int (iI z)]) ⟨hex, hb, hml, hown, hts⟩ (Ct.use T H.size) (cwV 0 hts (gdV bg_611 bg_524 bg_525 bg_4 bc_M_youngCells) rfl rfl rfl hdV_M_youngCells ⟨Nat.le_of_ble_eq_true rfl, Nat.le_of_ble_eq_true rfl⟩) (px_preV (ci := 4) hNW w.2.2.2.1 w.2.1 rwl.ly.1 rfl) rfl rfl hl.1 rfl (lv_room (Nat.le_of_ble_eq_true rfl)) d_L_550 ⟨(show cells + 0 + 0 ≤ 600000 by omega), (show slots + 0 + 0 ≤ 7302250 by omega)⟩) (fun v ΛR1 q H locs hp w => ?_)
  obtain ⟨z2, rfl, rfl, hz2, w2, th2, rb2⟩ := hp
  subst hz2
  refine W.eq (g2 := F0 m 553 ls [.int (iI z2), .int (iI z2)]) rfl ?_
  refine lv_icmp_eq (tgt := 584) hex hb d_L_553 rfl (fun _ => ?_) (fun hne => absurd rfl hne)
  exact W.widen (k := cells + 2) (n := slots + 10) (show cells + 0 + 0 ≤ cells + 2 by omega) (show slots + 0 + 0 ≤ slots + 10 by omega) (go _ _ _ _ _ _ w ⟨(g), fi, fj, w2, th2, rb2⟩)
theorem law_cards {p : Program} {l : Launch} {e : Env} {s : State} {m : MethodId} {below : List Frame} {meth : Method} {c0 : Code} {b L : Nat} {xs : Nat → Int32} {D : va_G} {H : Heap} {locs : List Loc} {cells slots : Nat} {ls : Array Slot} {ΛC ΛR : Lam} {c r : Nat → Nat} {σ ρ : Mem} {i : Nat} (hF : LF p s m c0 b L xs) (w : WD D s ΛC σ ΛR ρ H locs) (jv : JV ΛC c σ ΛR r ρ) (hl : lv_has ls 4 [(3, .int (iI i)), (2, .ref (r 0)), (1, .ref (c 0)), (0, .ref b)]) (hi : i + 4 ≤ L) (hcs : cells + 2 ≤ 600000) (hss : slots + 10 ≤ 7302250) (go : ∀ ΛC' σ' ΛR' ρ' H' locs', WD D s ΛC' σ' ΛR' ρ' H' locs' → JV ΛC' c σ' ΛR' r ρ' → W p l e room_1 s m #[Value.ref b] below meth c0 H' locs' (cells + 2) (slots + 10) (lw_Z below #[Value.ref b] s) (F0 m 584 ls [])) : W p l e room_1 s m #[Value.ref b] below meth c0 H locs cells slots (lw_Z below #[Value.ref b] s) (F0 m 558 ls []) := by
  have hF0 := hF
  obtain ⟨hex, hb, hml, hown, hts, hX, hbl, hNW, hLL⟩ := hF
  obtain ⟨g, fi, fj, rwl, th, rb⟩ := jv
  refine lv_aload_n hex hb d_L_558 rfl (lv_at hl 2 rfl) ?_
  have T := c_H_cards g.gb.wf.ly (l := l) (D := D) (P := fun z s1 => z = fCardsV c σ ∧ σ = s1) ⟨rfl, rfl⟩
  refine callC w (va_runV (As := []) (rest := []) ⟨hex, hb, hml, hown, hts⟩ (Ct.use T H.size) (cwV 0 hts (gdV bg_376 bg_377 bg_378 bg_1 bc_H_cards) rfl rfl rfl hdV_H_cards ⟨Nat.le_of_ble_eq_true rfl, Nat.le_of_ble_eq_true rfl⟩) (px_preV (ci := 3) hNW w.2.2.1 w.1 g.gb.wf.ly.1 rfl) rfl rfl hl.1 rfl (lv_room (Nat.le_of_ble_eq_true rfl)) d_L_559 ⟨(show cells + 0 ≤ 600000 by omega), (show slots + 0 ≤ 7302250 by omega)⟩) (fun v Λ1 s1 H locs hp w => ?_)
  obtain ⟨z, rfl, rfl, hz, hs1⟩ := hp
  subst hs1
  refine W.eq (g2 := F0 m 562 ls [.int (iI z)]) rfl ?_
  refine lv_aload_n hex hb d_L_562 rfl (lv_at hl 1 rfl) ?_
  have T := s_cards rwl g.gb rb (l := l) (D := D) (P := fun z2 q => z2 = z ∧ RW ΛR r q ∧ ∃ th2, RB ΛC c r th2 (σ) q) ⟨hz.symm, rwl, th, rb⟩
  refine callR w (va_runV (As := []) (rest := [.int (iI z)]) ⟨hex, hb, hml, hown, hts⟩ (Ct.use T H.size) (cwV 0 hts (gdV bg_612 bg_613 bg_614 bg_4 bc_M_cards) rfl rfl rfl hdV_M_cards ⟨Nat.le_of_ble_eq_true rfl, Nat.le_of_ble_eq_true rfl⟩) (px_preV (ci := 4) hNW w.2.2.2.1 w.2.1 rwl.ly.1 rfl) rfl rfl hl.1 rfl (lv_room (Nat.le_of_ble_eq_true rfl)) d_L_563 ⟨(show cells + 0 + 0 ≤ 600000 by omega), (show slots + 0 + 0 ≤ 7302250 by omega)⟩) (fun v ΛR1 q H locs hp w => ?_)
  obtain ⟨z2, rfl, rfl, hz2, w2, th2, rb2⟩ := hp
  subst hz2
  refine W.eq (g2 := F0 m 566 ls [.int (iI z2), .int (iI z2)]) rfl ?_
  refine lv_icmp_eq (tgt := 584) hex hb d_L_566 rfl (fun _ => ?_) (fun hne => absurd rfl hne)
  exact W.widen (k := cells + 2) (n := slots + 10) (show cells + 0 + 0 ≤ cells + 2 by omega) (show slots + 0 + 0 ≤ slots + 10 by omega) (go _ _ _ _ _ _ w ⟨(g), fi, fj, w2, th2, rb2⟩)
theorem law_marked {p : Program} {l : Launch} {e : Env} {s : State} {m : MethodId} {below : List Frame} {meth : Method} {c0 : Code} {b L : Nat} {xs : Nat → Int32} {D : va_G} {H : Heap} {locs : List Loc} {cells slots : Nat} {ls : Array Slot} {ΛC ΛR : Lam} {c r : Nat → Nat} {σ ρ : Mem} {i : Nat} (hF : LF p s m c0 b L xs) (w : WD D s ΛC σ ΛR ρ H locs) (jv : JV ΛC c σ ΛR r ρ) (hl : lv_has ls 4 [(3, .int (iI i)), (2, .ref (r 0)), (1, .ref (c 0)), (0, .ref b)]) (hi : i + 4 ≤ L) (hcs : cells + 2 ≤ 600000) (hss : slots + 10 ≤ 7302250) (go : ∀ ΛC' σ' ΛR' ρ' H' locs', WD D s ΛC' σ' ΛR' ρ' H' locs' → JV ΛC' c σ' ΛR' r ρ' → W p l e room_1 s m #[Value.ref b] below meth c0 H' locs' (cells + 2) (slots + 10) (lw_Z below #[Value.ref b] s) (F0 m 584 ls [])) : W p l e room_1 s m #[Value.ref b] below meth c0 H locs cells slots (lw_Z below #[Value.ref b] s) (F0 m 571 ls []) := by
  have hF0 := hF
  obtain ⟨hex, hb, hml, hown, hts, hX, hbl, hNW, hLL⟩ := hF
  obtain ⟨g, fi, fj, rwl, th, rb⟩ := jv
  refine lv_aload_n hex hb d_L_571 rfl (lv_at hl 2 rfl) ?_
  have T := c_H_marked g.gb.wf (l := l) (D := D) (P := fun z s1 => z = fMarked c σ ∧ σ = s1) ⟨rfl, rfl⟩
  refine callC w (va_runV (As := []) (rest := []) ⟨hex, hb, hml, hown, hts⟩ (Ct.use T H.size) (cwV 0 hts (gdV bg_380 bg_381 bg_382 bg_1 bc_H_marked) rfl rfl rfl hdV_H_marked ⟨Nat.le_of_ble_eq_true rfl, Nat.le_of_ble_eq_true rfl⟩) (px_preV (ci := 3) hNW w.2.2.1 w.1 g.gb.wf.ly.1 rfl) rfl rfl hl.1 rfl (lv_room (Nat.le_of_ble_eq_true rfl)) d_L_572 ⟨(show cells + 0 ≤ 600000 by omega), (show slots + 0 ≤ 7302250 by omega)⟩) (fun v Λ1 s1 H locs hp w => ?_)
  obtain ⟨z, rfl, rfl, hz, hs1⟩ := hp
  subst hs1
  refine W.eq (g2 := F0 m 575 ls [.int (iI z)]) rfl ?_
  refine lv_aload_n hex hb d_L_575 rfl (lv_at hl 1 rfl) ?_
  have T := s_marked rwl g.gb rb (l := l) (D := D) (P := fun z2 q => z2 = z ∧ RW ΛR r q ∧ ∃ th2, RB ΛC c r th2 (σ) q) ⟨hz.symm, rwl, th, rb⟩
  refine callR w (va_runV (As := []) (rest := [.int (iI z)]) ⟨hex, hb, hml, hown, hts⟩ (Ct.use T H.size) (cwV 0 hts (gdV bg_616 bg_617 bg_618 bg_4 bc_M_marked) rfl rfl rfl hdV_M_marked ⟨Nat.le_of_ble_eq_true rfl, Nat.le_of_ble_eq_true rfl⟩) (px_preV (ci := 4) hNW w.2.2.2.1 w.2.1 rwl.ly.1 rfl) rfl rfl hl.1 rfl (lv_room (Nat.le_of_ble_eq_true rfl)) d_L_576 ⟨(show cells + 0 + 0 ≤ 600000 by omega), (show slots + 0 + 0 ≤ 7302250 by omega)⟩) (fun v ΛR1 q H locs hp w => ?_)
  obtain ⟨z2, rfl, rfl, hz2, w2, th2, rb2⟩ := hp
  subst hz2
  refine W.eq (g2 := F0 m 579 ls [.int (iI z2), .int (iI z2)]) rfl ?_
  refine lv_icmp_eq (tgt := 584) hex hb d_L_579 rfl (fun _ => ?_) (fun hne => absurd rfl hne)
  exact W.widen (k := cells + 2) (n := slots + 10) (show cells + 0 + 0 ≤ cells + 2 by omega) (show slots + 0 + 0 ≤ slots + 10 by omega) (go _ _ _ _ _ _ w ⟨(g), fi, fj, w2, th2, rb2⟩)
