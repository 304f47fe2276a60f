/-! ===== the class's ontology and saturation: shapes, what they hold ===== -/
def OnAt (h : am_H) (o : Nat) : Prop :=
  am_kd h o 2 = true ∧ am_P h o 0 = some (o + 1) ∧ am_P h o 1 = some (o + 3) ∧ am_P h o 2 = some (o + 5) ∧ am_P h o 4 = some (o + 6) ∧ am_P h o 5 = some (o + 7) ∧ am_P h o 6 = some (o + 8) ∧ am_P h o 7 = some (o + 9) ∧ am_P h o 8 = some (o + 10) ∧ am_P h o 11 = some (o + 11) ∧ am_P h o 12 = some (o + 12) ∧ am_P h o 13 = some (o + 13) ∧ am_P h o 14 = some (o + 14) ∧ am_P h o 15 = some (o + 15) ∧ am_P h o 16 = some (o + 16) ∧
  am_kd h (o + 1) 6 = true ∧ am_P h (o + 1) 1 = some (o + 2) ∧ (am_S h)[o + 2]? = some (10, 24) ∧ am_kd h (o + 3) 6 = true ∧ am_P h (o + 3) 1 = some (o + 4) ∧ (am_S h)[o + 4]? = some (10, 24) ∧ (am_S h)[o + 5]? = some (9, 24) ∧
  (am_S h)[o + 6]? = some (9, 60) ∧ (am_S h)[o + 7]? = some (9, 60) ∧ (am_S h)[o + 8]? = some (9, 60) ∧ (am_S h)[o + 9]? = some (9, 60) ∧ (am_S h)[o + 10]? = some (9, 60) ∧
  (am_S h)[o + 11]? = some (9, 32) ∧ (am_S h)[o + 12]? = some (9, 32) ∧ (am_S h)[o + 13]? = some (9, 32) ∧ (am_S h)[o + 14]? = some (9, 32) ∧ (am_S h)[o + 15]? = some (9, 32) ∧ (am_S h)[o + 16]? = some (9, 32)
theorem On_k {h : am_H} {o : Nat} (H : OnAt h o) : am_kd h o 2 = true := H.1
theorem On_p0 {h : am_H} {o : Nat} (H : OnAt h o) : am_P h o 0 = some (o + 1) := H.2.1
theorem On_p1 {h : am_H} {o : Nat} (H : OnAt h o) : am_P h o 1 = some (o + 3) := H.2.2.1
theorem On_p2 {h : am_H} {o : Nat} (H : OnAt h o) : am_P h o 2 = some (o + 5) := H.2.2.2.1
theorem On_p4 {h : am_H} {o : Nat} (H : OnAt h o) : am_P h o 4 = some (o + 6) := H.2.2.2.2.1
theorem On_p5 {h : am_H} {o : Nat} (H : OnAt h o) : am_P h o 5 = some (o + 7) := H.2.2.2.2.2.1
theorem On_p6 {h : am_H} {o : Nat} (H : OnAt h o) : am_P h o 6 = some (o + 8) := H.2.2.2.2.2.2.1
theorem On_p7 {h : am_H} {o : Nat} (H : OnAt h o) : am_P h o 7 = some (o + 9) := H.2.2.2.2.2.2.2.1
theorem On_p8 {h : am_H} {o : Nat} (H : OnAt h o) : am_P h o 8 = some (o + 10) := H.2.2.2.2.2.2.2.2.1
theorem On_p11 {h : am_H} {o : Nat} (H : OnAt h o) : am_P h o 11 = some (o + 11) := H.2.2.2.2.2.2.2.2.2.1
theorem On_p12 {h : am_H} {o : Nat} (H : OnAt h o) : am_P h o 12 = some (o + 12) := H.2.2.2.2.2.2.2.2.2.2.1
theorem On_p13 {h : am_H} {o : Nat} (H : OnAt h o) : am_P h o 13 = some (o + 13) := H.2.2.2.2.2.2.2.2.2.2.2.1
theorem On_p14 {h : am_H} {o : Nat} (H : OnAt h o) : am_P h o 14 = some (o + 14) := H.2.2.2.2.2.2.2.2.2.2.2.2.1
theorem On_p15 {h : am_H} {o : Nat} (H : OnAt h o) : am_P h o 15 = some (o + 15) := H.2.2.2.2.2.2.2.2.2.2.2.2.2.1
theorem On_p16 {h : am_H} {o : Nat} (H : OnAt h o) : am_P h o 16 = some (o + 16) := H.2.2.2.2.2.2.2.2.2.2.2.2.2.2.1
theorem On_k1 {h : am_H} {o : Nat} (H : OnAt h o) : am_kd h (o + 1) 6 = true := H.2.2.2.2.2.2.2.2.2.2.2.2.2.2.2.1
theorem On_q1 {h : am_H} {o : Nat} (H : OnAt h o) : am_P h (o + 1) 1 = some (o + 2) := H.2.2.2.2.2.2.2.2.2.2.2.2.2.2.2.2.1
theorem On_r2 {h : am_H} {o : Nat} (H : OnAt h o) {k : Nat} (hk : k < 24) (f : Nat → Option am_R) : am_ar h 10 (o + 2) (nI k) f = f k := ar_n H.2.2.2.2.2.2.2.2.2.2.2.2.2.2.2.2.2.1 hk (by omega) f
theorem On_k3 {h : am_H} {o : Nat} (H : OnAt h o) : am_kd h (o + 3) 6 = true := H.2.2.2.2.2.2.2.2.2.2.2.2.2.2.2.2.2.2.1
theorem On_q3 {h : am_H} {o : Nat} (H : OnAt h o) : am_P h (o + 3) 1 = some (o + 4) := H.2.2.2.2.2.2.2.2.2.2.2.2.2.2.2.2.2.2.2.1
theorem On_r4 {h : am_H} {o : Nat} (H : OnAt h o) {k : Nat} (hk : k < 24) (f : Nat → Option am_R) : am_ar h 10 (o + 4) (nI k) f = f k := ar_n H.2.2.2.2.2.2.2.2.2.2.2.2.2.2.2.2.2.2.2.2.1 hk (by omega) f
theorem On_r5 {h : am_H} {o : Nat} (H : OnAt h o) {k : Nat} (hk : k < 24) (f : Nat → Option am_R) : am_ar h 9 (o + 5) (nI k) f = f k := ar_n H.2.2.2.2.2.2.2.2.2.2.2.2.2.2.2.2.2.2.2.2.2.1 hk (by omega) f
theorem On_r6 {h : am_H} {o : Nat} (H : OnAt h o) {k : Nat} (hk : k < 60) (f : Nat → Option am_R) : am_ar h 9 (o + 6) (nI k) f = f k := ar_n H.2.2.2.2.2.2.2.2.2.2.2.2.2.2.2.2.2.2.2.2.2.2.1 hk (by omega) f
theorem On_r7 {h : am_H} {o : Nat} (H : OnAt h o) {k : Nat} (hk : k < 60) (f : Nat → Option am_R) : am_ar h 9 (o + 7) (nI k) f = f k := ar_n H.2.2.2.2.2.2.2.2.2.2.2.2.2.2.2.2.2.2.2.2.2.2.2.1 hk (by omega) f
theorem On_r8 {h : am_H} {o : Nat} (H : OnAt h o) {k : Nat} (hk : k < 60) (f : Nat → Option am_R) : am_ar h 9 (o + 8) (nI k) f = f k := ar_n H.2.2.2.2.2.2.2.2.2.2.2.2.2.2.2.2.2.2.2.2.2.2.2.2.1 hk (by omega) f
theorem On_r9 {h : am_H} {o : Nat} (H : OnAt h o) {k : Nat} (hk : k < 60) (f : Nat → Option am_R) : am_ar h 9 (o + 9) (nI k) f = f k := ar_n H.2.2.2.2.2.2.2.2.2.2.2.2.2.2.2.2.2.2.2.2.2.2.2.2.2.1 hk (by omega) f
theorem On_r10 {h : am_H} {o : Nat} (H : OnAt h o) {k : Nat} (hk : k < 60) (f : Nat → Option am_R) : am_ar h 9 (o + 10) (nI k) f = f k := ar_n H.2.2.2.2.2.2.2.2.2.2.2.2.2.2.2.2.2.2.2.2.2.2.2.2.2.2.1 hk (by omega) f
theorem On_r11 {h : am_H} {o : Nat} (H : OnAt h o) {k : Nat} (hk : k < 32) (f : Nat → Option am_R) : am_ar h 9 (o + 11) (nI k) f = f k := ar_n H.2.2.2.2.2.2.2.2.2.2.2.2.2.2.2.2.2.2.2.2.2.2.2.2.2.2.2.1 hk (by omega) f
theorem On_r12 {h : am_H} {o : Nat} (H : OnAt h o) {k : Nat} (hk : k < 32) (f : Nat → Option am_R) : am_ar h 9 (o + 12) (nI k) f = f k := ar_n H.2.2.2.2.2.2.2.2.2.2.2.2.2.2.2.2.2.2.2.2.2.2.2.2.2.2.2.2.1 hk (by omega) f
theorem On_r13 {h : am_H} {o : Nat} (H : OnAt h o) {k : Nat} (hk : k < 32) (f : Nat → Option am_R) : am_ar h 9 (o + 13) (nI k) f = f k := ar_n H.2.2.2.2.2.2.2.2.2.2.2.2.2.2.2.2.2.2.2.2.2.2.2.2.2.2.2.2.2.1 hk (by omega) f
theorem On_r14 {h : am_H} {o : Nat} (H : OnAt h o) {k : Nat} (hk : k < 32) (f : Nat → Option am_R) : am_ar h 9 (o + 14) (nI k) f = f k := ar_n H.2.2.2.2.2.2.2.2.2.2.2.2.2.2.2.2.2.2.2.2.2.2.2.2.2.2.2.2.2.2.1 hk (by omega) f
theorem On_r15 {h : am_H} {o : Nat} (H : OnAt h o) {k : Nat} (hk : k < 32) (f : Nat → Option am_R) : am_ar h 9 (o + 15) (nI k) f = f k := ar_n H.2.2.2.2.2.2.2.2.2.2.2.2.2.2.2.2.2.2.2.2.2.2.2.2.2.2.2.2.2.2.2.1 hk (by omega) f
theorem On_r16 {h : am_H} {o : Nat} (H : OnAt h o) {k : Nat} (hk : k < 32) (f : Nat → Option am_R) : am_ar h 9 (o + 16) (nI k) f = f k := ar_n H.2.2.2.2.2.2.2.2.2.2.2.2.2.2.2.2.2.2.2.2.2.2.2.2.2.2.2.2.2.2.2.2 hk (by omega) f
theorem OnAt_of {h h' : am_H} {o : Nat} (H : OnAt h o) (hS : am_S h' = am_S h) (h0 : am_P h' o = am_P h o) (h1 : am_P h' (o + 1) = am_P h (o + 1)) (h3 : am_P h' (o + 3) = am_P h (o + 3)) : OnAt h' o := by
  unfold OnAt am_kd at *
  rw [hS, h0, h1, h3]
  exact H
def SaAt (h : am_H) (s : Nat) : Prop :=
  am_kd h s 5 = true ∧ am_P h s 6 = some (s + 1) ∧ am_P h s 7 = some (s + 2) ∧ am_P h s 9 = some (s + 3) ∧ am_P h s 10 = some (s + 4) ∧ am_P h s 11 = some (s + 5) ∧ am_P h s 12 = some (s + 6) ∧ am_P h s 13 = some (s + 7) ∧ am_P h s 14 = some (s + 8) ∧ am_P h s 15 = some (s + 9) ∧ am_P h s 16 = some (s + 10) ∧ am_P h s 17 = some (s + 11) ∧
  (am_S h)[s + 1]? = some (9, 64) ∧ (am_S h)[s + 2]? = some (9, 64) ∧ (am_S h)[s + 3]? = some (9, 32) ∧ (am_S h)[s + 4]? = some (9, 8) ∧ (am_S h)[s + 5]? = some (10, 60) ∧ (am_S h)[s + 6]? = some (10, 60) ∧ (am_S h)[s + 7]? = some (10, 480) ∧ (am_S h)[s + 8]? = some (10, 480) ∧ (am_S h)[s + 9]? = some (10, 60) ∧ (am_S h)[s + 10]? = some (10, 60) ∧ (am_S h)[s + 11]? = some (10, 480)
theorem Sa_k {h : am_H} {s : Nat} (H : SaAt h s) : am_kd h s 5 = true := H.1
theorem Sa_p6 {h : am_H} {s : Nat} (H : SaAt h s) : am_P h s 6 = some (s + 1) := H.2.1
theorem Sa_p7 {h : am_H} {s : Nat} (H : SaAt h s) : am_P h s 7 = some (s + 2) := H.2.2.1
theorem Sa_p9 {h : am_H} {s : Nat} (H : SaAt h s) : am_P h s 9 = some (s + 3) := H.2.2.2.1
theorem Sa_p10 {h : am_H} {s : Nat} (H : SaAt h s) : am_P h s 10 = some (s + 4) := H.2.2.2.2.1
theorem Sa_p11 {h : am_H} {s : Nat} (H : SaAt h s) : am_P h s 11 = some (s + 5) := H.2.2.2.2.2.1
theorem Sa_p12 {h : am_H} {s : Nat} (H : SaAt h s) : am_P h s 12 = some (s + 6) := H.2.2.2.2.2.2.1
theorem Sa_p13 {h : am_H} {s : Nat} (H : SaAt h s) : am_P h s 13 = some (s + 7) := H.2.2.2.2.2.2.2.1
theorem Sa_p14 {h : am_H} {s : Nat} (H : SaAt h s) : am_P h s 14 = some (s + 8) := H.2.2.2.2.2.2.2.2.1
theorem Sa_p15 {h : am_H} {s : Nat} (H : SaAt h s) : am_P h s 15 = some (s + 9) := H.2.2.2.2.2.2.2.2.2.1
theorem Sa_p16 {h : am_H} {s : Nat} (H : SaAt h s) : am_P h s 16 = some (s + 10) := H.2.2.2.2.2.2.2.2.2.2.1
theorem Sa_p17 {h : am_H} {s : Nat} (H : SaAt h s) : am_P h s 17 = some (s + 11) := H.2.2.2.2.2.2.2.2.2.2.2.1
theorem Sa_r1 {h : am_H} {s : Nat} (H : SaAt h s) {k : Nat} (hk : k < 64) (f : Nat → Option am_R) : am_ar h 9 (s + 1) (nI k) f = f k := ar_n H.2.2.2.2.2.2.2.2.2.2.2.2.1 hk (by omega) f
theorem Sa_r2 {h : am_H} {s : Nat} (H : SaAt h s) {k : Nat} (hk : k < 64) (f : Nat → Option am_R) : am_ar h 9 (s + 2) (nI k) f = f k := ar_n H.2.2.2.2.2.2.2.2.2.2.2.2.2.1 hk (by omega) f
theorem Sa_r3 {h : am_H} {s : Nat} (H : SaAt h s) {k : Nat} (hk : k < 32) (f : Nat → Option am_R) : am_ar h 9 (s + 3) (nI k) f = f k := ar_n H.2.2.2.2.2.2.2.2.2.2.2.2.2.2.1 hk (by omega) f
theorem Sa_r4 {h : am_H} {s : Nat} (H : SaAt h s) {k : Nat} (hk : k < 8) (f : Nat → Option am_R) : am_ar h 9 (s + 4) (nI k) f = f k := ar_n H.2.2.2.2.2.2.2.2.2.2.2.2.2.2.2.1 hk (by omega) f
theorem Sa_r5 {h : am_H} {s : Nat} (H : SaAt h s) {k : Nat} (hk : k < 60) (f : Nat → Option am_R) : am_ar h 10 (s + 5) (nI k) f = f k := ar_n H.2.2.2.2.2.2.2.2.2.2.2.2.2.2.2.2.1 hk (by omega) f
theorem Sa_r6 {h : am_H} {s : Nat} (H : SaAt h s) {k : Nat} (hk : k < 60) (f : Nat → Option am_R) : am_ar h 10 (s + 6) (nI k) f = f k := ar_n H.2.2.2.2.2.2.2.2.2.2.2.2.2.2.2.2.2.1 hk (by omega) f
theorem Sa_r7 {h : am_H} {s : Nat} (H : SaAt h s) {k : Nat} (hk : k < 480) (f : Nat → Option am_R) : am_ar h 10 (s + 7) (nI k) f = f k := ar_n H.2.2.2.2.2.2.2.2.2.2.2.2.2.2.2.2.2.2.1 hk (by omega) f
theorem Sa_r8 {h : am_H} {s : Nat} (H : SaAt h s) {k : Nat} (hk : k < 480) (f : Nat → Option am_R) : am_ar h 10 (s + 8) (nI k) f = f k := ar_n H.2.2.2.2.2.2.2.2.2.2.2.2.2.2.2.2.2.2.2.1 hk (by omega) f
theorem Sa_r9 {h : am_H} {s : Nat} (H : SaAt h s) {k : Nat} (hk : k < 60) (f : Nat → Option am_R) : am_ar h 10 (s + 9) (nI k) f = f k := ar_n H.2.2.2.2.2.2.2.2.2.2.2.2.2.2.2.2.2.2.2.2.1 hk (by omega) f
theorem Sa_r10 {h : am_H} {s : Nat} (H : SaAt h s) {k : Nat} (hk : k < 60) (f : Nat → Option am_R) : am_ar h 10 (s + 10) (nI k) f = f k := ar_n H.2.2.2.2.2.2.2.2.2.2.2.2.2.2.2.2.2.2.2.2.2.1 hk (by omega) f
theorem Sa_r11 {h : am_H} {s : Nat} (H : SaAt h s) {k : Nat} (hk : k < 480) (f : Nat → Option am_R) : am_ar h 10 (s + 11) (nI k) f = f k := ar_n H.2.2.2.2.2.2.2.2.2.2.2.2.2.2.2.2.2.2.2.2.2.2 hk (by omega) f
theorem Sa_l1 {h : am_H} {s : Nat} (H : SaAt h s) (f : Int32 → Option am_R) : am_al h (s + 1) f = f (nI 64) := al_n H.2.2.2.2.2.2.2.2.2.2.2.2.1 (by omega) f
theorem Sa_l2 {h : am_H} {s : Nat} (H : SaAt h s) (f : Int32 → Option am_R) : am_al h (s + 2) f = f (nI 64) := al_n H.2.2.2.2.2.2.2.2.2.2.2.2.2.1 (by omega) f
theorem Sa_l6 {h : am_H} {s : Nat} (H : SaAt h s) (f : Int32 → Option am_R) : am_al h (s + 6) f = f (nI 60) := al_n H.2.2.2.2.2.2.2.2.2.2.2.2.2.2.2.2.2.1 (by omega) f
theorem SaAt_of {h h' : am_H} {s : Nat} (H : SaAt h s) (hS : am_S h' = am_S h) (h0 : ∀ j, j ≠ 0 → am_P h' s j = am_P h s j) : SaAt h' s := by
  unfold SaAt am_kd at *
  rw [hS, h0 6 (by omega), h0 7 (by omega), h0 9 (by omega), h0 10 (by omega), h0 11 (by omega), h0 12 (by omega), h0 13 (by omega), h0 14 (by omega), h0 15 (by omega), h0 16 (by omega), h0 17 (by omega)]
  exact H
/-- the ontology O stands at o -/
def OnR (h : am_H) (o : Nat) (O : o_T) : Prop :=
  OnAt h o ∧ o_ok O ∧ am_I h o 3 = nI (o_P O) ∧ am_I h o 9 = nI (o_A O) ∧ am_I h (o + 1) 2 = nI (o_N O) ∧ am_I h (o + 3) 2 = nI (o_R O) ∧
  (∀ p, p < o_P O → am_I h (o + 6) p = nI (o_pk O p) ∧ am_I h (o + 7) p = nI (o_pa O p) ∧ am_I h (o + 8) p = nI (o_pb O p)) ∧
  (∀ k, k < o_A O → am_I h (o + 11) k = nI (o_ak O k) ∧ am_I h (o + 12) k = nI (o_a1 O k) ∧ am_I h (o + 13) k = nI (o_a2 O k) ∧ am_I h (o + 14) k = nI (o_a3 O k))
theorem OnR_at {h : am_H} {o : Nat} {O : o_T} (H : OnR h o O) : OnAt h o := H.1
theorem OnR_P {h : am_H} {o : Nat} {O : o_T} (H : OnR h o O) : am_I h o 3 = nI (o_P O) := H.2.2.1
theorem OnR_A {h : am_H} {o : Nat} {O : o_T} (H : OnR h o O) : am_I h o 9 = nI (o_A O) := H.2.2.2.1
theorem OnR_N {h : am_H} {o : Nat} {O : o_T} (H : OnR h o O) : am_I h (o + 1) 2 = nI (o_N O) := H.2.2.2.2.1
theorem OnR_R {h : am_H} {o : Nat} {O : o_T} (H : OnR h o O) : am_I h (o + 3) 2 = nI (o_R O) := H.2.2.2.2.2.1
theorem OnR_pk {h : am_H} {o : Nat} {O : o_T} (H : OnR h o O) {p : Nat} (hp : p < o_P O) : am_I h (o + 6) p = nI (o_pk O p) := (H.2.2.2.2.2.2.1 p hp).1
theorem OnR_pa {h : am_H} {o : Nat} {O : o_T} (H : OnR h o O) {p : Nat} (hp : p < o_P O) : am_I h (o + 7) p = nI (o_pa O p) := (H.2.2.2.2.2.2.1 p hp).2.1
theorem OnR_pb {h : am_H} {o : Nat} {O : o_T} (H : OnR h o O) {p : Nat} (hp : p < o_P O) : am_I h (o + 8) p = nI (o_pb O p) := (H.2.2.2.2.2.2.1 p hp).2.2
theorem OnR_ak {h : am_H} {o : Nat} {O : o_T} (H : OnR h o O) {p : Nat} (hp : p < o_A O) : am_I h (o + 11) p = nI (o_ak O p) := (H.2.2.2.2.2.2.2 p hp).1
theorem OnR_a1 {h : am_H} {o : Nat} {O : o_T} (H : OnR h o O) {p : Nat} (hp : p < o_A O) : am_I h (o + 12) p = nI (o_a1 O p) := (H.2.2.2.2.2.2.2 p hp).2.1
theorem OnR_a2 {h : am_H} {o : Nat} {O : o_T} (H : OnR h o O) {p : Nat} (hp : p < o_A O) : am_I h (o + 13) p = nI (o_a2 O p) := (H.2.2.2.2.2.2.2 p hp).2.2.1
theorem OnR_a3 {h : am_H} {o : Nat} {O : o_T} (H : OnR h o O) {p : Nat} (hp : p < o_A O) : am_I h (o + 14) p = nI (o_a3 O p) := (H.2.2.2.2.2.2.2 p hp).2.2.2
theorem OnR_of {h h' : am_H} {o : Nat} {O : o_T} (H : OnR h o O) (hS : am_S h' = am_S h) (hP : ∀ j, j < 17 → am_P h' (o + j) = am_P h (o + j)) (hI : ∀ j, j < 17 → am_I h' (o + j) = am_I h (o + j)) : OnR h' o O := by
  obtain ⟨h1, h2, h3, h4, h5, h6, h7, h8⟩ := H
  have e0 : am_I h' o = am_I h o := hI 0 (by omega)
  refine ⟨OnAt_of h1 hS (hP 0 (by omega)) (hP 1 (by omega)) (hP 3 (by omega)), h2, ?_, ?_, ?_, ?_, ?_, ?_⟩
  · rw [e0]; exact h3
  · rw [e0]; exact h4
  · rw [hI 1 (by omega)]; exact h5
  · rw [hI 3 (by omega)]; exact h6
  · rw [hI 6 (by omega), hI 7 (by omega), hI 8 (by omega)]; exact h7
  · rw [hI 11 (by omega), hI 12 (by omega), hI 13 (by omega), hI 14 (by omega)]; exact h8
/-- what is laid out once of the axioms B -/
def SaC (h : am_H) (s o : Nat) (O : o_T) (B : Nat → Prop) : Prop :=
  SaAt h s ∧ OnR h o O ∧ am_P h s 0 = some o ∧ am_I h s 2 = nI (o_P O) ∧ am_I h s 3 = nI (o_R O) ∧ am_L h s 1 = wL B ∧
  (∃ (n : Nat) (f t : Nat → Nat), n ≤ 64 ∧ am_I h s 5 = nI n ∧ (∀ k, k < n → am_I h (s + 1) k = nI (f k) ∧ am_I h (s + 2) k = nI (t k) ∧ f k < 60 ∧ t k < 60) ∧ ∀ c d, (∃ k, k < n ∧ f k = c ∧ t k = d) ↔ o_im O B c d) ∧
  (∃ (m : Nat) (g : Nat → Nat), m ≤ 32 ∧ am_I h s 8 = nI m ∧ (∀ k, k < m → am_I h (s + 3) k = nI (g k)) ∧ ∀ c, (∃ k, k < m ∧ g k = c) ↔ (c < o_A O ∧ B c ∧ o_ak O c = 3)) ∧
  (∀ r, r < o_R O → am_I h (s + 4) r = wI (o_un O B r))
theorem SaC_at {h : am_H} {s o : Nat} {O : o_T} {B : Nat → Prop} (H : SaC h s o O B) : SaAt h s := H.1
theorem SaC_on {h : am_H} {s o : Nat} {O : o_T} {B : Nat → Prop} (H : SaC h s o O B) : OnR h o O := H.2.1
theorem SaC_o {h : am_H} {s o : Nat} {O : o_T} {B : Nat → Prop} (H : SaC h s o O B) : am_P h s 0 = some o := H.2.2.1
theorem SaC_P {h : am_H} {s o : Nat} {O : o_T} {B : Nat → Prop} (H : SaC h s o O B) : am_I h s 2 = nI (o_P O) := H.2.2.2.1
theorem SaC_R {h : am_H} {s o : Nat} {O : o_T} {B : Nat → Prop} (H : SaC h s o O B) : am_I h s 3 = nI (o_R O) := H.2.2.2.2.1
theorem SaC_B {h : am_H} {s o : Nat} {O : o_T} {B : Nat → Prop} (H : SaC h s o O B) : am_L h s 1 = wL B := H.2.2.2.2.2.1
theorem SaC_u {h : am_H} {s o : Nat} {O : o_T} {B : Nat → Prop} (H : SaC h s o O B) {r : Nat} (hr : r < o_R O) : am_I h (s + 4) r = wI (o_un O B r) := H.2.2.2.2.2.2.2.2 r hr
/-- longs alone change, and of them only those of s -/
def fL (s : Nat) (h h' : am_H) : Prop := am_I h' = am_I h ∧ am_P h' = am_P h ∧ am_S h' = am_S h ∧ am_G h' = am_G h ∧ am_T h' = am_T h ∧ (∀ b, b < s ∨ s + 12 ≤ b → am_L h' b = am_L h b) ∧ (∀ j, j ≠ 4 → am_L h' s j = am_L h s j)
theorem fL_r (s : Nat) (h : am_H) : fL s h h := ⟨rfl, rfl, rfl, rfl, rfl, fun _ _ => rfl, fun _ _ => rfl⟩
theorem fL_t {s : Nat} {a b c : am_H} (h1 : fL s a b) (h2 : fL s b c) : fL s a c := by
  obtain ⟨a1, a2, a3, a4, a5, a6, a7⟩ := h1
  obtain ⟨b1, b2, b3, b4, b5, b6, b7⟩ := h2
  exact ⟨b1.trans a1, b2.trans a2, b3.trans a3, b4.trans a4, b5.trans a5, fun x hx => (b6 x hx).trans (a6 x hx), fun j hj => (b7 j hj).trans (a7 j hj)⟩
theorem fL_w {s : Nat} {h0 h : am_H} (q : fL s h0 h) {c : Nat} (h1 : 1 ≤ c) (h2 : c < 12) (i : Nat) (v : Int64) : fL s h0 (am_sL h (s + c) i v) := by
  refine fL_t q ⟨rfl, rfl, rfl, rfl, rfl, fun b hb => ?_, fun j hj => ?_⟩
  · funext j
    rw [pc_L_L, if_neg (by omega)]
  · rw [pc_L_L, if_neg (by omega)]
theorem fL_4 {s : Nat} {h0 h : am_H} (q : fL s h0 h) (v : Int64) : fL s h0 (am_sL h s 4 v) := by
  refine fL_t q ⟨rfl, rfl, rfl, rfl, rfl, fun b hb => ?_, fun j hj => ?_⟩
  · funext j
    rw [pc_L_L, if_neg (by omega)]
  · rw [pc_L_L, if_neg (by omega)]
theorem SaC_f {h h' : am_H} {s o : Nat} {O : o_T} {B : Nat → Prop} (H : SaC h s o O B) (q : fL s h h') : SaC h' s o O B := by
  obtain ⟨q1, q2, q3, q4, q5, q6, q7⟩ := q
  obtain ⟨h1, h2, h3, h4, h5, h6, h7, h8, h9⟩ := H
  refine ⟨SaAt_of h1 q3 (fun j _ => by rw [q2]), OnR_of h2 q3 (fun j _ => by rw [q2]) (fun j _ => by rw [q1]), ?_, ?_, ?_, ?_, ?_, ?_, ?_⟩
  · rw [q2]; exact h3
  · rw [q1]; exact h4
  · rw [q1]; exact h5
  · rw [q7 1 (by omega)]; exact h6
  · rw [q1]; exact h7
  · rw [q1]; exact h8
  · rw [q1]; exact h9
theorem rl_e {a b : Int64} {h : am_H} (e : a = b) : (some (.inr (some (.long a)), h) : Option am_R) = some (.inr (some (.long b)), h) := by rw [e]
theorem ri_e {a b : Int32} {h : am_H} (e : a = b) : (some (.inr (some (.int a)), h) : Option am_R) = some (.inr (some (.int b)), h) := by rw [e]
theorem Sa_byAxioms {h : am_H} {s o : Nat} {O : o_T} {B : Nat → Prop} (H : SaC h s o O B) (d : Nat) (w : Int64) : f_Sa_byAxioms d h s w = some (.inr (some (.long (wL (fun y => ∃ c, xl w c = true ∧ o_im O B c y)))), h) := by
  have H1 := SaC_at H
  obtain ⟨n, f, t, hn, e5, ef, ei⟩ := H.2.2.2.2.2.2.1
  have key : ∀ k, k ≤ n → ∀ u : Int64, u = wL (fun y => ∃ i, i < k ∧ xl w (f i) = true ∧ t i = y) → f_Sa_byAxioms_5 d h s w u (nI k) = some (.inr (some (.long (wL (fun y => ∃ c, xl w c = true ∧ o_im O B c y)))), h) := by
    refine dn ?_ ?_
    · intro u hu
      rw [e_Sa_byAxioms_5]
      simp (disch := first | assumption | omega) only [hc_ck, hc_gi, hc_gl, hc_gp, hc_ap, kd_I, kd_L, kd_P, kd_rI, ar_I, ar_L, ar_P, al_I, al_L, al_P, hop_s, cond_true, cond_false, pc_I_I, pc_L_L, pc_P_P, pc_I_L, pc_I_P, pc_L_I, pc_L_P, pc_P_I, pc_P_L, pc_sS_I, pc_sS_L, pc_sS_P, I_rI, L_rI, P_rI, S_rI, cv_r, ci_r, cl_r, o1_b, o1_0, o1_1, lc_e, nI_1, nI_add, if_true, if_false, Sa_k, e5, n_le, Nat.le_refl, hu]
      apply rl_e
      apply wL_cong
      intro y _
      constructor
      · rintro ⟨i, h1, h2, h3⟩
        exact ⟨f i, h2, (ei _ _).mp ⟨i, h1, rfl, h3⟩⟩
      · rintro ⟨c, h1, h2⟩
        obtain ⟨i, h3, rfl, h4⟩ := (ei _ _).mpr h2
        exact ⟨i, h3, h1, h4⟩
    · intro k hk ih u hu
      obtain ⟨f1, f2, f3, f4⟩ := ef k hk
      rw [e_Sa_byAxioms_5]
      simp (disch := first | assumption | omega) only [hc_ck, hc_gi, hc_gl, hc_gp, hc_ap, kd_I, kd_L, kd_P, kd_rI, ar_I, ar_L, ar_P, al_I, al_L, al_P, hop_s, cond_true, cond_false, pc_I_I, pc_L_L, pc_P_P, pc_I_L, pc_I_P, pc_L_I, pc_L_P, pc_P_I, pc_P_L, pc_sS_I, pc_sS_L, pc_sS_P, I_rI, L_rI, P_rI, S_rI, cv_r, ci_r, cl_r, o1_b, o1_0, o1_1, lc_e, nI_1, nI_add, if_true, if_false, Sa_k, Sa_p6, Sa_p7, Sa_r1, Sa_r2, e5, n_le, f1, f2]
      rw [if_neg (by omega)]
      apply ih
      apply wL_of
      intro y hy
      rw [xl_or, xl_mv w (by omega) (by omega), hu, Bool.or_eq_true, wL_x, Bool.and_eq_true, decide_eq_true_iff]
      constructor
      · rintro (⟨-, i, h1, h2⟩ | ⟨h1, h2⟩)
        · exact ⟨i, by omega, h2⟩
        · exact ⟨k, by omega, h1, h2.symm⟩
      · rintro ⟨i, h1, h2, h3⟩
        by_cases e : i = k
        · subst e; exact Or.inr ⟨h2, h3.symm⟩
        · exact Or.inl ⟨hy, i, by omega, h2, h3⟩
  rw [e_Sa_byAxioms]
  exact key 0 (Nat.zero_le _) 0 (wL_of (fun k _ => by
    rw [xl_0]
    exact ⟨fun h => absurd h (by decide), fun ⟨i, h, _⟩ => absurd h (Nat.not_lt_zero i)⟩))
