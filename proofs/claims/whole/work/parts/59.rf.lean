/-! ===== the reference: its shape, its rows ===== -/
theorem ap_I (h : am_H) (a i : Nat) (v : Int32) (c b : Nat) (j : Int32) (k : Nat → Option am_R) : am_ap (am_sI h a i v) c b j k = am_ap h c b j k := rfl
theorem ap_L (h : am_H) (a i : Nat) (v : Int64) (c b : Nat) (j : Int32) (k : Nat → Option am_R) : am_ap (am_sL h a i v) c b j k = am_ap h c b j k := rfl
def rf_ps : List (Nat × Nat) := [(1, 1), (8, 2), (9, 3), (10, 4), (12, 5), (18, 6), (19, 7), (20, 8), (21, 489), (22, 970), (23, 1451), (24, 1460), (25, 1461), (27, 1522), (28, 1523), (29, 1524), (30, 1525), (31, 1526), (32, 1527), (33, 1528), (35, 1529), (38, 1530), (39, 1531), (40, 1532), (41, 1533), (44, 1534)]
def rf_ss : List (Nat × Nat × Nat) := [(1, 9, 3), (2, 9, 400), (3, 9, 1604), (4, 9, 1604), (5, 9, 20), (6, 10, 480), (7, 10, 480), (8, 14, 480), (489, 14, 480), (970, 14, 480), (1451, 14, 8), (1460, 9, 8), (1461, 13, 60), (1522, 9, 24), (1523, 9, 24), (1524, 9, 24), (1525, 9, 24), (1526, 9, 24), (1527, 9, 24), (1528, 9, 24), (1529, 10, 5), (1530, 12, 480), (1531, 12, 480), (1532, 9, 480), (1533, 9, 480), (1534, 10, 480)]
def RfAt (h : am_H) (f : Nat) : Prop := am_kd h f 8 = true ∧ (∀ q ∈ rf_ps, am_P h f q.1 = some (f + q.2)) ∧ (∀ q ∈ rf_ss, (am_S h)[f + q.1]? = some (q.2.1, q.2.2)) ∧ (∀ x, x < 480 → am_P h (f + 8) x = some (f + 9 + x) ∧ (am_S h)[f + 9 + x]? = some (10, 8)) ∧ (∀ x, x < 480 → am_P h (f + 489) x = some (f + 490 + x) ∧ (am_S h)[f + 490 + x]? = some (10, 8)) ∧ (∀ x, x < 480 → am_P h (f + 970) x = some (f + 971 + x) ∧ (am_S h)[f + 971 + x]? = some (10, 8)) ∧ (∀ x, x < 8 → am_P h (f + 1451) x = some (f + 1452 + x) ∧ (am_S h)[f + 1452 + x]? = some (10, 480)) ∧ (∀ x, x < 60 → am_P h (f + 1461) x = some (f + 1462 + x) ∧ (am_S h)[f + 1462 + x]? = some (9, 60))
theorem Rf_k {h : am_H} {f : Nat} (H : RfAt h f) : am_kd h f 8 = true := H.1
theorem Rf_p1 {h : am_H} {f : Nat} (H : RfAt h f) : am_P h f 1 = some (f + 1) := H.2.1 (1, 1) (by decide)
theorem Rf_p8 {h : am_H} {f : Nat} (H : RfAt h f) : am_P h f 8 = some (f + 2) := H.2.1 (8, 2) (by decide)
theorem Rf_p9 {h : am_H} {f : Nat} (H : RfAt h f) : am_P h f 9 = some (f + 3) := H.2.1 (9, 3) (by decide)
theorem Rf_p10 {h : am_H} {f : Nat} (H : RfAt h f) : am_P h f 10 = some (f + 4) := H.2.1 (10, 4) (by decide)
theorem Rf_p12 {h : am_H} {f : Nat} (H : RfAt h f) : am_P h f 12 = some (f + 5) := H.2.1 (12, 5) (by decide)
theorem Rf_p18 {h : am_H} {f : Nat} (H : RfAt h f) : am_P h f 18 = some (f + 6) := H.2.1 (18, 6) (by decide)
theorem Rf_p19 {h : am_H} {f : Nat} (H : RfAt h f) : am_P h f 19 = some (f + 7) := H.2.1 (19, 7) (by decide)
theorem Rf_p20 {h : am_H} {f : Nat} (H : RfAt h f) : am_P h f 20 = some (f + 8) := H.2.1 (20, 8) (by decide)
theorem Rf_p21 {h : am_H} {f : Nat} (H : RfAt h f) : am_P h f 21 = some (f + 489) := H.2.1 (21, 489) (by decide)
theorem Rf_p22 {h : am_H} {f : Nat} (H : RfAt h f) : am_P h f 22 = some (f + 970) := H.2.1 (22, 970) (by decide)
theorem Rf_p23 {h : am_H} {f : Nat} (H : RfAt h f) : am_P h f 23 = some (f + 1451) := H.2.1 (23, 1451) (by decide)
theorem Rf_p24 {h : am_H} {f : Nat} (H : RfAt h f) : am_P h f 24 = some (f + 1460) := H.2.1 (24, 1460) (by decide)
theorem Rf_p25 {h : am_H} {f : Nat} (H : RfAt h f) : am_P h f 25 = some (f + 1461) := H.2.1 (25, 1461) (by decide)
theorem Rf_p27 {h : am_H} {f : Nat} (H : RfAt h f) : am_P h f 27 = some (f + 1522) := H.2.1 (27, 1522) (by decide)
theorem Rf_p28 {h : am_H} {f : Nat} (H : RfAt h f) : am_P h f 28 = some (f + 1523) := H.2.1 (28, 1523) (by decide)
theorem Rf_p29 {h : am_H} {f : Nat} (H : RfAt h f) : am_P h f 29 = some (f + 1524) := H.2.1 (29, 1524) (by decide)
theorem Rf_p30 {h : am_H} {f : Nat} (H : RfAt h f) : am_P h f 30 = some (f + 1525) := H.2.1 (30, 1525) (by decide)
theorem Rf_p31 {h : am_H} {f : Nat} (H : RfAt h f) : am_P h f 31 = some (f + 1526) := H.2.1 (31, 1526) (by decide)
theorem Rf_p32 {h : am_H} {f : Nat} (H : RfAt h f) : am_P h f 32 = some (f + 1527) := H.2.1 (32, 1527) (by decide)
theorem Rf_p33 {h : am_H} {f : Nat} (H : RfAt h f) : am_P h f 33 = some (f + 1528) := H.2.1 (33, 1528) (by decide)
theorem Rf_p35 {h : am_H} {f : Nat} (H : RfAt h f) : am_P h f 35 = some (f + 1529) := H.2.1 (35, 1529) (by decide)
theorem Rf_p38 {h : am_H} {f : Nat} (H : RfAt h f) : am_P h f 38 = some (f + 1530) := H.2.1 (38, 1530) (by decide)
theorem Rf_p39 {h : am_H} {f : Nat} (H : RfAt h f) : am_P h f 39 = some (f + 1531) := H.2.1 (39, 1531) (by decide)
theorem Rf_p40 {h : am_H} {f : Nat} (H : RfAt h f) : am_P h f 40 = some (f + 1532) := H.2.1 (40, 1532) (by decide)
theorem Rf_p41 {h : am_H} {f : Nat} (H : RfAt h f) : am_P h f 41 = some (f + 1533) := H.2.1 (41, 1533) (by decide)
theorem Rf_p44 {h : am_H} {f : Nat} (H : RfAt h f) : am_P h f 44 = some (f + 1534) := H.2.1 (44, 1534) (by decide)
theorem Rf_r1 {h : am_H} {f : Nat} (H : RfAt h f) {k : Nat} (hk : k < 3) (g : Nat → Option am_R) : am_ar h 9 (f + 1) (nI k) g = g k := ar_n (n := 3) (H.2.2.1 (1, 9, 3) (by decide)) hk (by omega) g
theorem Rf_r2 {h : am_H} {f : Nat} (H : RfAt h f) {k : Nat} (hk : k < 400) (g : Nat → Option am_R) : am_ar h 9 (f + 2) (nI k) g = g k := ar_n (n := 400) (H.2.2.1 (2, 9, 400) (by decide)) hk (by omega) g
theorem Rf_r3 {h : am_H} {f : Nat} (H : RfAt h f) {k : Nat} (hk : k < 1604) (g : Nat → Option am_R) : am_ar h 9 (f + 3) (nI k) g = g k := ar_n (n := 1604) (H.2.2.1 (3, 9, 1604) (by decide)) hk (by omega) g
theorem Rf_r4 {h : am_H} {f : Nat} (H : RfAt h f) {k : Nat} (hk : k < 1604) (g : Nat → Option am_R) : am_ar h 9 (f + 4) (nI k) g = g k := ar_n (n := 1604) (H.2.2.1 (4, 9, 1604) (by decide)) hk (by omega) g
theorem Rf_r5 {h : am_H} {f : Nat} (H : RfAt h f) {k : Nat} (hk : k < 20) (g : Nat → Option am_R) : am_ar h 9 (f + 5) (nI k) g = g k := ar_n (n := 20) (H.2.2.1 (5, 9, 20) (by decide)) hk (by omega) g
theorem Rf_r6 {h : am_H} {f : Nat} (H : RfAt h f) {k : Nat} (hk : k < 480) (g : Nat → Option am_R) : am_ar h 10 (f + 6) (nI k) g = g k := ar_n (n := 480) (H.2.2.1 (6, 10, 480) (by decide)) hk (by omega) g
theorem Rf_r7 {h : am_H} {f : Nat} (H : RfAt h f) {k : Nat} (hk : k < 480) (g : Nat → Option am_R) : am_ar h 10 (f + 7) (nI k) g = g k := ar_n (n := 480) (H.2.2.1 (7, 10, 480) (by decide)) hk (by omega) g
theorem Rf_r8 {h : am_H} {f : Nat} (H : RfAt h f) {k : Nat} (hk : k < 480) (g : Nat → Option am_R) : am_ar h 14 (f + 8) (nI k) g = g k := ar_n (n := 480) (H.2.2.1 (8, 14, 480) (by decide)) hk (by omega) g
theorem Rf_r489 {h : am_H} {f : Nat} (H : RfAt h f) {k : Nat} (hk : k < 480) (g : Nat → Option am_R) : am_ar h 14 (f + 489) (nI k) g = g k := ar_n (n := 480) (H.2.2.1 (489, 14, 480) (by decide)) hk (by omega) g
theorem Rf_r970 {h : am_H} {f : Nat} (H : RfAt h f) {k : Nat} (hk : k < 480) (g : Nat → Option am_R) : am_ar h 14 (f + 970) (nI k) g = g k := ar_n (n := 480) (H.2.2.1 (970, 14, 480) (by decide)) hk (by omega) g
theorem Rf_r1451 {h : am_H} {f : Nat} (H : RfAt h f) {k : Nat} (hk : k < 8) (g : Nat → Option am_R) : am_ar h 14 (f + 1451) (nI k) g = g k := ar_n (n := 8) (H.2.2.1 (1451, 14, 8) (by decide)) hk (by omega) g
theorem Rf_r1460 {h : am_H} {f : Nat} (H : RfAt h f) {k : Nat} (hk : k < 8) (g : Nat → Option am_R) : am_ar h 9 (f + 1460) (nI k) g = g k := ar_n (n := 8) (H.2.2.1 (1460, 9, 8) (by decide)) hk (by omega) g
theorem Rf_r1461 {h : am_H} {f : Nat} (H : RfAt h f) {k : Nat} (hk : k < 60) (g : Nat → Option am_R) : am_ar h 13 (f + 1461) (nI k) g = g k := ar_n (n := 60) (H.2.2.1 (1461, 13, 60) (by decide)) hk (by omega) g
theorem Rf_r1522 {h : am_H} {f : Nat} (H : RfAt h f) {k : Nat} (hk : k < 24) (g : Nat → Option am_R) : am_ar h 9 (f + 1522) (nI k) g = g k := ar_n (n := 24) (H.2.2.1 (1522, 9, 24) (by decide)) hk (by omega) g
theorem Rf_r1523 {h : am_H} {f : Nat} (H : RfAt h f) {k : Nat} (hk : k < 24) (g : Nat → Option am_R) : am_ar h 9 (f + 1523) (nI k) g = g k := ar_n (n := 24) (H.2.2.1 (1523, 9, 24) (by decide)) hk (by omega) g
theorem Rf_r1524 {h : am_H} {f : Nat} (H : RfAt h f) {k : Nat} (hk : k < 24) (g : Nat → Option am_R) : am_ar h 9 (f + 1524) (nI k) g = g k := ar_n (n := 24) (H.2.2.1 (1524, 9, 24) (by decide)) hk (by omega) g
theorem Rf_r1525 {h : am_H} {f : Nat} (H : RfAt h f) {k : Nat} (hk : k < 24) (g : Nat → Option am_R) : am_ar h 9 (f + 1525) (nI k) g = g k := ar_n (n := 24) (H.2.2.1 (1525, 9, 24) (by decide)) hk (by omega) g
theorem Rf_r1526 {h : am_H} {f : Nat} (H : RfAt h f) {k : Nat} (hk : k < 24) (g : Nat → Option am_R) : am_ar h 9 (f + 1526) (nI k) g = g k := ar_n (n := 24) (H.2.2.1 (1526, 9, 24) (by decide)) hk (by omega) g
theorem Rf_r1527 {h : am_H} {f : Nat} (H : RfAt h f) {k : Nat} (hk : k < 24) (g : Nat → Option am_R) : am_ar h 9 (f + 1527) (nI k) g = g k := ar_n (n := 24) (H.2.2.1 (1527, 9, 24) (by decide)) hk (by omega) g
theorem Rf_r1528 {h : am_H} {f : Nat} (H : RfAt h f) {k : Nat} (hk : k < 24) (g : Nat → Option am_R) : am_ar h 9 (f + 1528) (nI k) g = g k := ar_n (n := 24) (H.2.2.1 (1528, 9, 24) (by decide)) hk (by omega) g
theorem Rf_r1529 {h : am_H} {f : Nat} (H : RfAt h f) {k : Nat} (hk : k < 5) (g : Nat → Option am_R) : am_ar h 10 (f + 1529) (nI k) g = g k := ar_n (n := 5) (H.2.2.1 (1529, 10, 5) (by decide)) hk (by omega) g
theorem Rf_r1530 {h : am_H} {f : Nat} (H : RfAt h f) {k : Nat} (hk : k < 480) (g : Nat → Option am_R) : am_ar h 12 (f + 1530) (nI k) g = g k := ar_n (n := 480) (H.2.2.1 (1530, 12, 480) (by decide)) hk (by omega) g
theorem Rf_r1531 {h : am_H} {f : Nat} (H : RfAt h f) {k : Nat} (hk : k < 480) (g : Nat → Option am_R) : am_ar h 12 (f + 1531) (nI k) g = g k := ar_n (n := 480) (H.2.2.1 (1531, 12, 480) (by decide)) hk (by omega) g
theorem Rf_r1532 {h : am_H} {f : Nat} (H : RfAt h f) {k : Nat} (hk : k < 480) (g : Nat → Option am_R) : am_ar h 9 (f + 1532) (nI k) g = g k := ar_n (n := 480) (H.2.2.1 (1532, 9, 480) (by decide)) hk (by omega) g
theorem Rf_r1533 {h : am_H} {f : Nat} (H : RfAt h f) {k : Nat} (hk : k < 480) (g : Nat → Option am_R) : am_ar h 9 (f + 1533) (nI k) g = g k := ar_n (n := 480) (H.2.2.1 (1533, 9, 480) (by decide)) hk (by omega) g
theorem Rf_r1534 {h : am_H} {f : Nat} (H : RfAt h f) {k : Nat} (hk : k < 480) (g : Nat → Option am_R) : am_ar h 10 (f + 1534) (nI k) g = g k := ar_n (n := 480) (H.2.2.1 (1534, 10, 480) (by decide)) hk (by omega) g
theorem Rf_a8 {h : am_H} {f : Nat} (H : RfAt h f) {x : Nat} (hx : x < 480) (g : Nat → Option am_R) : am_ap h 14 (f + 8) (nI x) g = g (f + 9 + x) := by
  rw [hc_ap, Rf_r8 H hx, (H.2.2.2.1 x hx).1, hop_s]
theorem Rf_b9 {h : am_H} {f : Nat} (H : RfAt h f) {x k : Nat} (hx : x < 480) (hk : k < 8) (g : Nat → Option am_R) : am_ar h 10 (f + 9 + x) (nI k) g = g k := ar_n (H.2.2.2.1 x hx).2 hk (by omega) g
theorem Rf_a489 {h : am_H} {f : Nat} (H : RfAt h f) {x : Nat} (hx : x < 480) (g : Nat → Option am_R) : am_ap h 14 (f + 489) (nI x) g = g (f + 490 + x) := by
  rw [hc_ap, Rf_r489 H hx, (H.2.2.2.2.1 x hx).1, hop_s]
theorem Rf_b490 {h : am_H} {f : Nat} (H : RfAt h f) {x k : Nat} (hx : x < 480) (hk : k < 8) (g : Nat → Option am_R) : am_ar h 10 (f + 490 + x) (nI k) g = g k := ar_n (H.2.2.2.2.1 x hx).2 hk (by omega) g
theorem Rf_a970 {h : am_H} {f : Nat} (H : RfAt h f) {x : Nat} (hx : x < 480) (g : Nat → Option am_R) : am_ap h 14 (f + 970) (nI x) g = g (f + 971 + x) := by
  rw [hc_ap, Rf_r970 H hx, (H.2.2.2.2.2.1 x hx).1, hop_s]
theorem Rf_b971 {h : am_H} {f : Nat} (H : RfAt h f) {x k : Nat} (hx : x < 480) (hk : k < 8) (g : Nat → Option am_R) : am_ar h 10 (f + 971 + x) (nI k) g = g k := ar_n (H.2.2.2.2.2.1 x hx).2 hk (by omega) g
theorem Rf_a1451 {h : am_H} {f : Nat} (H : RfAt h f) {x : Nat} (hx : x < 8) (g : Nat → Option am_R) : am_ap h 14 (f + 1451) (nI x) g = g (f + 1452 + x) := by
  rw [hc_ap, Rf_r1451 H hx, (H.2.2.2.2.2.2.1 x hx).1, hop_s]
theorem Rf_b1452 {h : am_H} {f : Nat} (H : RfAt h f) {x k : Nat} (hx : x < 8) (hk : k < 480) (g : Nat → Option am_R) : am_ar h 10 (f + 1452 + x) (nI k) g = g k := ar_n (H.2.2.2.2.2.2.1 x hx).2 hk (by omega) g
theorem Rf_a1461 {h : am_H} {f : Nat} (H : RfAt h f) {x : Nat} (hx : x < 60) (g : Nat → Option am_R) : am_ap h 13 (f + 1461) (nI x) g = g (f + 1462 + x) := by
  rw [hc_ap, Rf_r1461 H hx, (H.2.2.2.2.2.2.2 x hx).1, hop_s]
theorem Rf_b1462 {h : am_H} {f : Nat} (H : RfAt h f) {x k : Nat} (hx : x < 60) (hk : k < 60) (g : Nat → Option am_R) : am_ar h 9 (f + 1462 + x) (nI k) g = g k := ar_n (H.2.2.2.2.2.2.2 x hx).2 hk (by omega) g
theorem RfAt_of {h h' : am_H} {f : Nat} (H : RfAt h f) (hS : am_S h' = am_S h) (hP : ∀ b, f ≤ b → b < f + 1535 → am_P h' b = am_P h b) : RfAt h' f := by
  obtain ⟨h1, h2, h3, h4, h5, h6, h7, h8⟩ := H
  unfold RfAt am_kd
  rw [hS, hP f (by omega) (by omega), hP (f + 8) (by omega) (by omega), hP (f + 489) (by omega) (by omega), hP (f + 970) (by omega) (by omega), hP (f + 1451) (by omega) (by omega), hP (f + 1461) (by omega) (by omega)]
  exact ⟨h1, h2, h3, h4, h5, h6, h7, h8⟩
theorem n_36 : (36 : Int32) = nI 36 := rfl
theorem n_1476 : (1476 : Int32) = nI 1476 := rfl
theorem n_60 : (60 : Int32) = nI 60 := rfl
/-- a row of the reference that holds the ontology O -/
def RwR (h : am_H) (r : Nat) (O : o_T) : Prop := (am_S h)[r]? = some (9, 1604) ∧ o_ok O ∧ am_I h r 0 = nI (o_N O) ∧ am_I h r 1 = nI (o_R O) ∧ am_I h r 2 = nI (o_P O) ∧ am_I h r 3 = nI (o_A O) ∧
  (∀ p, p < o_P O → am_I h r (36 + 3 * p) = nI (o_pk O p) ∧ am_I h r (36 + 3 * p + 1) = nI (o_pa O p) ∧ am_I h r (36 + 3 * p + 2) = nI (o_pb O p)) ∧
  (∀ k, k < o_A O → am_I h r (1476 + 4 * k) = nI (o_ak O k) ∧ am_I h r (1476 + 4 * k + 1) = nI (o_a1 O k) ∧ am_I h r (1476 + 4 * k + 2) = nI (o_a2 O k) ∧ am_I h r (1476 + 4 * k + 3) = nI (o_a3 O k))
theorem Rw_ar {h : am_H} {r : Nat} {O : o_T} (H : RwR h r O) {k : Nat} (hk : k < 1604) (g : Nat → Option am_R) : am_ar h 9 r (nI k) g = g k := ar_n H.1 hk (by omega) g
theorem Rw_N {h : am_H} {r : Nat} {O : o_T} (H : RwR h r O) : am_I h r 0 = nI (o_N O) := H.2.2.1
theorem Rw_R {h : am_H} {r : Nat} {O : o_T} (H : RwR h r O) : am_I h r 1 = nI (o_R O) := H.2.2.2.1
theorem Rw_P {h : am_H} {r : Nat} {O : o_T} (H : RwR h r O) : am_I h r 2 = nI (o_P O) := H.2.2.2.2.1
theorem Rw_A {h : am_H} {r : Nat} {O : o_T} (H : RwR h r O) : am_I h r 3 = nI (o_A O) := H.2.2.2.2.2.1
theorem Rw_of {h h' : am_H} {r : Nat} {O : o_T} (H : RwR h r O) (hS : am_S h' = am_S h) (hI : am_I h' r = am_I h r) : RwR h' r O := by
  unfold RwR at *
  rw [hS, hI]
  exact H
theorem Rf_kindOf {h : am_H} {r : Nat} {O : o_T} (H : RwR h r O) {p : Nat} (hp : p < o_P O) (d : Nat) : f_Rf_kindOf d h r (nI p) = some (.inr (some (.int (nI (o_pk O p)))), h) := by
  have := H.2.1.2.2.2.1
  rw [e_Rf_kindOf]
  simp (disch := first | assumption | omega) only [n_36, n_3m, nI_add, Rw_ar, (H.2.2.2.2.2.2.1 p hp).1]
theorem Rf_oneOf {h : am_H} {r : Nat} {O : o_T} (H : RwR h r O) {p : Nat} (hp : p < o_P O) (d : Nat) : f_Rf_oneOf d h r (nI p) = some (.inr (some (.int (nI (o_pa O p)))), h) := by
  have := H.2.1.2.2.2.1
  rw [e_Rf_oneOf]
  simp (disch := first | assumption | omega) only [n_36, n_3m, nI_add, nI_1, Rw_ar, (H.2.2.2.2.2.2.1 p hp).2.1]
theorem Rf_otherOf {h : am_H} {r : Nat} {O : o_T} (H : RwR h r O) {p : Nat} (hp : p < o_P O) (d : Nat) : f_Rf_otherOf d h r (nI p) = some (.inr (some (.int (nI (o_pb O p)))), h) := by
  have := H.2.1.2.2.2.1
  rw [e_Rf_otherOf]
  simp (disch := first | assumption | omega) only [n_36, n_2, n_3m, nI_add, Rw_ar, (H.2.2.2.2.2.2.1 p hp).2.2]
theorem Rf_axiom0 {h : am_H} {r : Nat} {O : o_T} (H : RwR h r O) {p : Nat} (hp : p < o_A O) (d : Nat) : f_Rf_axiomOf d h r (nI p) 0 = some (.inr (some (.int (nI (o_ak O p)))), h) := by
  have := H.2.1.2.2.2.2.1
  rw [e_Rf_axiomOf]
  simp (disch := first | assumption | omega) only [n_1476, n_0, n_4m, nI_add, Nat.add_zero, Rw_ar, (H.2.2.2.2.2.2.2 p hp).1]
theorem Rf_axiom1 {h : am_H} {r : Nat} {O : o_T} (H : RwR h r O) {p : Nat} (hp : p < o_A O) (d : Nat) : f_Rf_axiomOf d h r (nI p) 1 = some (.inr (some (.int (nI (o_a1 O p)))), h) := by
  have := H.2.1.2.2.2.2.1
  rw [e_Rf_axiomOf]
  simp (disch := first | assumption | omega) only [n_1476, n_4m, nI_add, nI_1, Rw_ar, (H.2.2.2.2.2.2.2 p hp).2.1]
theorem Rf_axiom2 {h : am_H} {r : Nat} {O : o_T} (H : RwR h r O) {p : Nat} (hp : p < o_A O) (d : Nat) : f_Rf_axiomOf d h r (nI p) 2 = some (.inr (some (.int (nI (o_a2 O p)))), h) := by
  have := H.2.1.2.2.2.2.1
  rw [e_Rf_axiomOf]
  simp (disch := first | assumption | omega) only [n_1476, n_2, n_4m, nI_add, Rw_ar, (H.2.2.2.2.2.2.2 p hp).2.2.1]
theorem Rf_axiom3 {h : am_H} {r : Nat} {O : o_T} (H : RwR h r O) {p : Nat} (hp : p < o_A O) (d : Nat) : f_Rf_axiomOf d h r (nI p) 3 = some (.inr (some (.int (nI (o_a3 O p)))), h) := by
  have := H.2.1.2.2.2.2.1
  rw [e_Rf_axiomOf]
  simp (disch := first | assumption | omega) only [n_1476, n_3, n_4m, nI_add, Rw_ar, (H.2.2.2.2.2.2.2 p hp).2.2.2]
theorem Rf_has (h : am_H) (w : Int64) {k : Nat} (hk : k < 64) (d : Nat) : f_Rf_has d h w (nI k) = some (.inr (some (.int (bo (xl w k)))), h) := by
  rw [e_Rf_has]
  simp (disch := first | assumption | omega) only [lc_e, xl_t1, o1_0, o1_1]
  cases xl w k <;> rfl
theorem Rf_hasI (h : am_H) (w : Int32) {k : Nat} (hk : k < 32) (d : Nat) : f_Rf_has d h w.toInt64 (nI k) = some (.inr (some (.int (bo (yi w k)))), h) := by
  rw [Rf_has h _ (by omega), xl_i w hk]
/-- longs alone change, from lo up to hi -/
def fRL (f lo hi : Nat) (h h' : am_H) : Prop := fX (fun b => f + lo ≤ b ∧ b < f + hi) h h'
theorem fRL_at {f lo hi : Nat} {h h' : am_H} (q : fRL f lo hi h h') (H : RfAt h f) : RfAt h' f := RfAt_of H q.2.2.1 (fun b _ _ => by rw [q.2.1])
theorem fRL_rw {f lo hi r : Nat} {O : o_T} {h h' : am_H} (q : fRL f lo hi h h') (H : RwR h r O) : RwR h' r O := Rw_of H q.2.2.1 (by rw [q.1])
theorem fRL_w {f lo hi : Nat} {h0 h : am_H} (q : fRL f lo hi h0 h) {a : Nat} (h1 : f + lo ≤ a) (h2 : a < f + hi) (i : Nat) (v : Int64) : fRL f lo hi h0 (am_sL h a i v) := fX_w q (a := a) (W := fun b => f + lo ≤ b ∧ b < f + hi) ⟨h1, h2⟩ i v
theorem fRL_m {f lo hi lo' hi' : Nat} {h h' : am_H} (q : fRL f lo hi h h') (h1 : lo' ≤ lo) (h2 : hi ≤ hi') : fRL f lo' hi' h h' := fX_m q (fun b hb => ⟨by omega, by omega⟩)
theorem fRL_e {f lo hi : Nat} {h h' : am_H} (q : fRL f lo hi h h') {b : Nat} (hb : b < f + lo ∨ f + hi ≤ b) : am_L h' b = am_L h b := q.2.2.2.2.2 b (by omega)
