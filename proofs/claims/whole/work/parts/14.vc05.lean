/-! printed by my own program: walks between loop heads -/
theorem v_fm_joint_0 {g : mG} {d : Nat} (x1 : Int32) (x2 : Int32) (x3 : Int32) (x4 : Int32) (x5 : Int32) {h : mH} {Q : Option mV → mH → Prop} (hsk : mSK h) (hv : ((x1 = 0 → ((x2 < 0 → mT g me_fm_refuse (d + 1) 0 0 0 [some (vr 10 0), some (vi (-1 : Int32))] [] h (fun v h1 => ∃ y2, v = some (vi y2) ∧ mSK h1 ∧ Q (some (vi y2)) h1)) ∧ (¬ x2 < 0 → (((hI h 10 0 3) ≤ x2 → mT g me_fm_refuse (d + 1) 0 0 0 [some (vr 10 0), some (vi (-1 : Int32))] [] h (fun v h3 => ∃ y4, v = some (vi y4) ∧ mSK h3 ∧ Q (some (vi y4)) h3)) ∧ (¬ (hI h 10 0 3) ≤ x2 → ((x3 < 0 → mT g me_fm_refuse (d + 1) 0 0 0 [some (vr 10 0), some (vi (-4 : Int32))] [] h (fun v h5 => ∃ y6, v = some (vi y6) ∧ mSK h5 ∧ Q (some (vi y6)) h5)) ∧ (¬ x3 < 0 → ((x4 < (1 : Int32) → mT g me_fm_refuse (d + 1) 0 0 0 [some (vr 10 0), some (vi (-4 : Int32))] [] h (fun v h7 => ∃ y8, v = some (vi y8) ∧ mSK h7 ∧ Q (some (vi y8)) h7)) ∧ (¬ x4 < (1 : Int32) → (((1 : Int32) ≤ x5 → (((500 : Int32) < x3 → mT g me_fm_refuse (d + 1) 0 0 0 [some (vr 10 0), some (vi (-6 : Int32))] [] h (fun v h9 => ∃ y10, v = some (vi y10) ∧ mSK h9 ∧ Q (some (vi y10)) h9)) ∧ (¬ (500 : Int32) < x3 → (((9 : Int32) < x4 → mT g me_fm_refuse (d + 1) 0 0 0 [some (vr 10 0), some (vi (-6 : Int32))] [] h (fun v h11 => ∃ y12, v = some (vi y12) ∧ mSK h11 ∧ Q (some (vi y12)) h11)) ∧ (¬ (9 : Int32) < x4 → (((200 : Int32) < x5 → mT g me_fm_refuse (d + 1) 0 0 0 [some (vr 10 0), some (vi (-6 : Int32))] [] h (fun v h13 => ∃ y14, v = some (vi y14) ∧ mSK h13 ∧ Q (some (vi y14)) h13)) ∧ (¬ (200 : Int32) < x5 → ((¬ (hI h 10 0 3) = (30 : Int32) → ((¬ x1 = 0 → ((x1 = 0 → (vp_in (hI h 10 0 3) 30 ∧ ((x1 = 0 → (vp_in x2 30 ∧ (vp_in (hI h 10 0 3) 30 ∧ (vp_in (hI h 10 0 3) 30 ∧ (vp_in (hI h 10 0 3) 30 ∧ (vp_in (hI h 10 0 3) 30 ∧ (vp_in (hI h 10 0 3) 30 ∧ Q (some (vi (((hI h 10 0 3) + (1 : Int32)) - (1 : Int32)))) (setI (setI (setI (setI (setI (setI (setI (setI h 11 14 ((hI h 10 0 3).toNatClampNeg) x2) 11 15 ((hI h 10 0 3).toNatClampNeg) (hI h 11 15 x2.toNatClampNeg)) 11 16 ((hI h 10 0 3).toNatClampNeg) x3) 11 17 ((hI h 10 0 3).toNatClampNeg) x4) 11 18 ((hI h 10 0 3).toNatClampNeg) x5) 11 20 ((hI h 10 0 3).toNatClampNeg) (-9 : Int32)) 10 0 3 ((hI h 10 0 3) + (1 : Int32))) 10 0 55 (0 : Int32))))))))) ∧ (¬ x1 = 0 → (vp_in (hI h 10 0 3) 30 ∧ (vp_in (hI h 10 0 3) 30 ∧ (vp_in (hI h 10 0 3) 30 ∧ (vp_in (hI h 10 0 3) 30 ∧ (vp_in (hI h 10 0 3) 30 ∧ Q (some (vi (((hI h 10 0 3) + (1 : Int32)) - (1 : Int32)))) (setI (setI (setI (setI (setI (setI (setI (setI h 11 14 ((hI h 10 0 3).toNatClampNeg) x2) 11 15 ((hI h 10 0 3).toNatClampNeg) x2) 11 16 ((hI h 10 0 3).toNatClampNeg) x3) 11 17 ((hI h 10 0 3).toNatClampNeg) x4) 11 18 ((hI h 10 0 3).toNatClampNeg) x5) 11 20 ((hI h 10 0 3).toNatClampNeg) (-9 : Int32)) 10 0 3 ((hI h 10 0 3) + (1 : Int32))) 10 0 55 (0 : Int32))))))))))) ∧ (¬ x1 = 0 → (vp_in (hI h 10 0 3) 30 ∧ ((x1 = 0 → (vp_in x2 30 ∧ (vp_in (hI h 10 0 3) 30 ∧ (vp_in (hI h 10 0 3) 30 ∧ (vp_in (hI h 10 0 3) 30 ∧ (vp_in (hI h 10 0 3) 30 ∧ (vp_in (hI h 10 0 3) 30 ∧ Q (some (vi (((hI h 10 0 3) + (1 : Int32)) - (1 : Int32)))) (setI (setI (setI (setI (setI (setI (setI (setI h 11 14 ((hI h 10 0 3).toNatClampNeg) (-9 : Int32)) 11 15 ((hI h 10 0 3).toNatClampNeg) (hI h 11 15 x2.toNatClampNeg)) 11 16 ((hI h 10 0 3).toNatClampNeg) x3) 11 17 ((hI h 10 0 3).toNatClampNeg) x4) 11 18 ((hI h 10 0 3).toNatClampNeg) x5) 11 20 ((hI h 10 0 3).toNatClampNeg) (-9 : Int32)) 10 0 3 ((hI h 10 0 3) + (1 : Int32))) 10 0 55 (0 : Int32))))))))) ∧ (¬ x1 = 0 → (vp_in (hI h 10 0 3) 30 ∧ (vp_in (hI h 10 0 3) 30 ∧ (vp_in (hI h 10 0 3) 30 ∧ (vp_in (hI h 10 0 3) 30 ∧ (vp_in (hI h 10 0 3) 30 ∧ Q (some (vi (((hI h 10 0 3) + (1 : Int32)) - (1 : Int32)))) (setI (setI (setI (setI (setI (setI (setI (setI h 11 14 ((hI h 10 0 3).toNatClampNeg) (-9 : Int32)) 11 15 ((hI h 10 0 3).toNatClampNeg) x2) 11 16 ((hI h 10 0 3).toNatClampNeg) x3) 11 17 ((hI h 10 0 3).toNatClampNeg) x4) 11 18 ((hI h 10 0 3).toNatClampNeg) x5) 11 20 ((hI h 10 0 3).toNatClampNeg) (-9 : Int32)) 10 0 3 ((hI h 10 0 3) + (1 : Int32))) 10 0 55 (0 : Int32))))))))))))) ∧ (x1 = 0 → (vp_in x2 30 ∧ (((hI h 12 0 x2.toNatClampNeg) = 0 → ((x1 = 0 → (vp_in (hI h 10 0 3) 30 ∧ ((x1 = 0 → (vp_in x2 30 ∧ (vp_in (hI h 10 0 3) 30 ∧ (vp_in (hI h 10 0 3) 30 ∧ (vp_in (hI h 10 0 3) 30 ∧ (vp_in (hI h 10 0 3) 30 ∧ (vp_in (hI h 10 0 3) 30 ∧ Q (some (vi (((hI h 10 0 3) + (1 : Int32)) - (1 : Int32)))) (setI (setI (setI (setI (setI (setI (setI (setI h 11 14 ((hI h 10 0 3).toNatClampNeg) x2) 11 15 ((hI h 10 0 3).toNatClampNeg) (hI h 11 15 x2.toNatClampNeg)) 11 16 ((hI h 10 0 3).toNatClampNeg) x3) 11 17 ((hI h 10 0 3).toNatClampNeg) x4) 11 18 ((hI h 10 0 3).toNatClampNeg) x5) 11 20 ((hI h 10 0 3).toNatClampNeg) (-9 : Int32)) 10 0 3 ((hI h 10 0 3) + (1 : Int32))) 10 0 55 (0 : Int32))))))))) ∧ (¬ x1 = 0 → (vp_in (hI h 10 0 3) 30 ∧ (vp_in (hI h 10 0 3) 30 ∧ (vp_in (hI h 10 0 3) 30 ∧ (vp_in (hI h 10 0 3) 30 ∧ (vp_in (hI h 10 0 3) 30 ∧ Q (some (vi (((hI h 10 0 3) + (1 : Int32)) - (1 : Int32)))) (setI (setI (setI (setI (setI (setI (setI (setI h 11 14 ((hI h 10 0 3).toNatClampNeg) x2) 11 15 ((hI h 10 0 3).toNatClampNeg) x2) 11 16 ((hI h 10 0 3).toNatClampNeg) x3) 11 17 ((hI h 10 0 3).toNatClampNeg) x4) 11 18 ((hI h 10 0 3).toNatClampNeg) x5) 11 20 ((hI h 10 0 3).toNatClampNeg) (-9 : Int32)) 10 0 3 ((hI h 10 0 3) + (1 : Int32))) 10 0 55 (0 : Int32))))))))))) ∧ (¬ x1 = 0 → (vp_in (hI h 10 0 3) 30 ∧ ((x1 = 0 → (vp_in x2 30 ∧ (vp_in (hI h 10 0 3) 30 ∧ (vp_in (hI h 10 0 3) 30 ∧ (vp_in (hI h 10 0 3) 30 ∧ (vp_in (hI h 10 0 3) 30 ∧ (vp_in (hI h 10 0 3) 30 ∧ Q (some (vi (((hI h 10 0 3) + (1 : Int32)) - (1 : Int32)))) (setI (setI (setI (setI (setI (setI (setI (setI h 11 14 ((hI h 10 0 3).toNatClampNeg) (-9 : Int32)) 11 15 ((hI h 10 0 3).toNatClampNeg) (hI h 11 15 x2.toNatClampNeg)) 11 16 ((hI h 10 0 3).toNatClampNeg) x3) 11 17 ((hI h 10 0 3).toNatClampNeg) x4) 11 18 ((hI h 10 0 3).toNatClampNeg) x5) 11 20 ((hI h 10 0 3).toNatClampNeg) (-9 : Int32)) 10 0 3 ((hI h 10 0 3) + (1 : Int32))) 10 0 55 (0 : Int32))))))))) ∧ (¬ x1 = 0 → (vp_in (hI h 10 0 3) 30 ∧ (vp_in (hI h 10 0 3) 30 ∧ (vp_in (hI h 10 0 3) 30 ∧ (vp_in (hI h 10 0 3) 30 ∧ (vp_in (hI h 10 0 3) 30 ∧ Q (some (vi (((hI h 10 0 3) + (1 : Int32)) - (1 : Int32)))) (setI (setI (setI (setI (setI (setI (setI (setI h 11 14 ((hI h 10 0 3).toNatClampNeg) (-9 : Int32)) 11 15 ((hI h 10 0 3).toNatClampNeg) x2) 11 16 ((hI h 10 0 3).toNatClampNeg) x3) 11 17 ((hI h 10 0 3).toNatClampNeg) x4) 11 18 ((hI h 10 0 3).toNatClampNeg) x5) 11 20 ((hI h 10 0 3).toNatClampNeg) (-9 : Int32)) 10 0 3 ((hI h 10 0 3) + (1 : Int32))) 10 0 55 (0 : Int32))))))))))))) ∧ (¬ (hI h 12 0 x2.toNatClampNeg) = 0 → mT g me_fm_refuse (d + 1) 0 0 0 [some (vr 10 0), some (vi (-3 : Int32))] [] h (fun v h15 => ∃ y16, v = some (vi y16) ∧ mSK h15 ∧ Q (some (vi y16)) h15))))))) ∧ ((hI h 10 0 3) = (30 : Int32) → mT g me_fm_refuse (d + 1) 0 0 0 [some (vr 10 0), some (vi (-6 : Int32))] [] h (fun v h17 => ∃ y18, v = some (vi y18) ∧ mSK h17 ∧ Q (some (vi y18)) h17)))))))))) ∧ (¬ (1 : Int32) ≤ x5 → mT g me_fm_refuse (d + 1) 0 0 0 [some (vr 10 0), some (vi (-4 : Int32))] [] h (fun v h19 => ∃ y20, v = some (vi y20) ∧ mSK h19 ∧ Q (some (vi y20)) h19)))))))))))) ∧ (¬ x1 = 0 → ((x2 < 0 → mT g me_fm_refuse (d + 1) 0 0 0 [some (vr 10 0), some (vi (-1 : Int32))] [] h (fun v h21 => ∃ y22, v = some (vi y22) ∧ mSK h21 ∧ Q (some (vi y22)) h21)) ∧ (¬ x2 < 0 → (((hI h 10 0 2) ≤ x2 → mT g me_fm_refuse (d + 1) 0 0 0 [some (vr 10 0), some (vi (-1 : Int32))] [] h (fun v h23 => ∃ y24, v = some (vi y24) ∧ mSK h23 ∧ Q (some (vi y24)) h23)) ∧ (¬ (hI h 10 0 2) ≤ x2 → ((x3 < 0 → mT g me_fm_refuse (d + 1) 0 0 0 [some (vr 10 0), some (vi (-4 : Int32))] [] h (fun v h25 => ∃ y26, v = some (vi y26) ∧ mSK h25 ∧ Q (some (vi y26)) h25)) ∧ (¬ x3 < 0 → ((x4 < (1 : Int32) → mT g me_fm_refuse (d + 1) 0 0 0 [some (vr 10 0), some (vi (-4 : Int32))] [] h (fun v h27 => ∃ y28, v = some (vi y28) ∧ mSK h27 ∧ Q (some (vi y28)) h27)) ∧ (¬ x4 < (1 : Int32) → (((1 : Int32) ≤ x5 → (((500 : Int32) < x3 → mT g me_fm_refuse (d + 1) 0 0 0 [some (vr 10 0), some (vi (-6 : Int32))] [] h (fun v h29 => ∃ y30, v = some (vi y30) ∧ mSK h29 ∧ Q (some (vi y30)) h29)) ∧ (¬ (500 : Int32) < x3 → (((9 : Int32) < x4 → mT g me_fm_refuse (d + 1) 0 0 0 [some (vr 10 0), some (vi (-6 : Int32))] [] h (fun v h31 => ∃ y32, v = some (vi y32) ∧ mSK h31 ∧ Q (some (vi y32)) h31)) ∧ (¬ (9 : Int32) < x4 → (((200 : Int32) < x5 → mT g me_fm_refuse (d + 1) 0 0 0 [some (vr 10 0), some (vi (-6 : Int32))] [] h (fun v h33 => ∃ y34, v = some (vi y34) ∧ mSK h33 ∧ Q (some (vi y34)) h33)) ∧ (¬ (200 : Int32) < x5 → ((¬ (hI h 10 0 3) = (30 : Int32) → ((¬ x1 = 0 → ((x1 = 0 → (vp_in (hI h 10 0 3) 30 ∧ ((x1 = 0 → (vp_in x2 30 ∧ (vp_in (hI h 10 0 3) 30 ∧ (vp_in (hI h 10 0 3) 30 ∧ (vp_in (hI h 10 0 3) 30 ∧ (vp_in (hI h 10 0 3) 30 ∧ (vp_in (hI h 10 0 3) 30 ∧ Q (some (vi (((hI h 10 0 3) + (1 : Int32)) - (1 : Int32)))) (setI (setI (setI (setI (setI (setI (setI (setI h 11 14 ((hI h 10 0 3).toNatClampNeg) x2) 11 15 ((hI h 10 0 3).toNatClampNeg) (hI h 11 15 x2.toNatClampNeg)) 11 16 ((hI h 10 0 3).toNatClampNeg) x3) 11 17 ((hI h 10 0 3).toNatClampNeg) x4) 11 18 ((hI h 10 0 3).toNatClampNeg) x5) 11 20 ((hI h 10 0 3).toNatClampNeg) (-9 : Int32)) 10 0 3 ((hI h 10 0 3) + (1 : Int32))) 10 0 55 (0 : Int32))))))))) ∧ (¬ x1 = 0 → (vp_in (hI h 10 0 3) 30 ∧ (vp_in (hI h 10 0 3) 30 ∧ (vp_in (hI h 10 0 3) 30 ∧ (vp_in (hI h 10 0 3) 30 ∧ (vp_in (hI h 10 0 3) 30 ∧ Q (some (vi (((hI h 10 0 3) + (1 : Int32)) - (1 : Int32)))) (setI (setI (setI (setI (setI (setI (setI (setI h 11 14 ((hI h 10 0 3).toNatClampNeg) x2) 11 15 ((hI h 10 0 3).toNatClampNeg) x2) 11 16 ((hI h 10 0 3).toNatClampNeg) x3) 11 17 ((hI h 10 0 3).toNatClampNeg) x4) 11 18 ((hI h 10 0 3).toNatClampNeg) x5) 11 20 ((hI h 10 0 3).toNatClampNeg) (-9 : Int32)) 10 0 3 ((hI h 10 0 3) + (1 : Int32))) 10 0 55 (0 : Int32))))))))))) ∧ (¬ x1 = 0 → (vp_in (hI h 10 0 3) 30 ∧ ((x1 = 0 → (vp_in x2 30 ∧ (vp_in (hI h 10 0 3) 30 ∧ (vp_in (hI h 10 0 3) 30 ∧ (vp_in (hI h 10 0 3) 30 ∧ (vp_in (hI h 10 0 3) 30 ∧ (vp_in (hI h 10 0 3) 30 ∧ Q (some (vi (((hI h 10 0 3) + (1 : Int32)) - (1 : Int32)))) (setI (setI (setI (setI (setI (setI (setI (setI h 11 14 ((hI h 10 0 3).toNatClampNeg) (-9 : Int32)) 11 15 ((hI h 10 0 3).toNatClampNeg) (hI h 11 15 x2.toNatClampNeg)) 11 16 ((hI h 10 0 3).toNatClampNeg) x3) 11 17 ((hI h 10 0 3).toNatClampNeg) x4) 11 18 ((hI h 10 0 3).toNatClampNeg) x5) 11 20 ((hI h 10 0 3).toNatClampNeg) (-9 : Int32)) 10 0 3 ((hI h 10 0 3) + (1 : Int32))) 10 0 55 (0 : Int32))))))))) ∧ (¬ x1 = 0 → (vp_in (hI h 10 0 3) 30 ∧ (vp_in (hI h 10 0 3) 30 ∧ (vp_in (hI h 10 0 3) 30 ∧ (vp_in (hI h 10 0 3) 30 ∧ (vp_in (hI h 10 0 3) 30 ∧ Q (some (vi (((hI h 10 0 3) + (1 : Int32)) - (1 : Int32)))) (setI (setI (setI (setI (setI (setI (setI (setI h 11 14 ((hI h 10 0 3).toNatClampNeg) (-9 : Int32)) 11 15 ((hI h 10 0 3).toNatClampNeg) x2) 11 16 ((hI h 10 0 3).toNatClampNeg) x3) 11 17 ((hI h 10 0 3).toNatClampNeg) x4) 11 18 ((hI h 10 0 3).toNatClampNeg) x5) 11 20 ((hI h 10 0 3).toNatClampNeg) (-9 : Int32)) 10 0 3 ((hI h 10 0 3) + (1 : Int32))) 10 0 55 (0 : Int32))))))))))))) ∧ (x1 = 0 → (vp_in x2 30 ∧ (((hI h 12 0 x2.toNatClampNeg) = 0 → ((x1 = 0 → (vp_in (hI h 10 0 3) 30 ∧ ((x1 = 0 → (vp_in x2 30 ∧ (vp_in (hI h 10 0 3) 30 ∧ (vp_in (hI h 10 0 3) 30 ∧ (vp_in (hI h 10 0 3) 30 ∧ (vp_in (hI h 10 0 3) 30 ∧ (vp_in (hI h 10 0 3) 30 ∧ Q (some (vi (((hI h 10 0 3) + (1 : Int32)) - (1 : Int32)))) (setI (setI (setI (setI (setI (setI (setI (setI h 11 14 ((hI h 10 0 3).toNatClampNeg) x2) 11 15 ((hI h 10 0 3).toNatClampNeg) (hI h 11 15 x2.toNatClampNeg)) 11 16 ((hI h 10 0 3).toNatClampNeg) x3) 11 17 ((hI h 10 0 3).toNatClampNeg) x4) 11 18 ((hI h 10 0 3).toNatClampNeg) x5) 11 20 ((hI h 10 0 3).toNatClampNeg) (-9 : Int32)) 10 0 3 ((hI h 10 0 3) + (1 : Int32))) 10 0 55 (0 : Int32))))))))) ∧ (¬ x1 = 0 → (vp_in (hI h 10 0 3) 30 ∧ (vp_in (hI h 10 0 3) 30 ∧ (vp_in (hI h 10 0 3) 30 ∧ (vp_in (hI h 10 0 3) 30 ∧ (vp_in (hI h 10 0 3) 30 ∧ Q (some (vi (((hI h 10 0 3) + (1 : Int32)) - (1 : Int32)))) (setI (setI (setI (setI (setI (setI (setI (setI h 11 14 ((hI h 10 0 3).toNatClampNeg) x2) 11 15 ((hI h 10 0 3).toNatClampNeg) x2) 11 16 ((hI h 10 0 3).toNatClampNeg) x3) 11 17 ((hI h 10 0 3).toNatClampNeg) x4) 11 18 ((hI h 10 0 3).toNatClampNeg) x5) 11 20 ((hI h 10 0 3).toNatClampNeg) (-9 : Int32)) 10 0 3 ((hI h 10 0 3) + (1 : Int32))) 10 0 55 (0 : Int32))))))))))) ∧ (¬ x1 = 0 → (vp_in (hI h 10 0 3) 30 ∧ ((x1 = 0 → (vp_in x2 30 ∧ (vp_in (hI h 10 0 3) 30 ∧ (vp_in (hI h 10 0 3) 30 ∧ (vp_in (hI h 10 0 3) 30 ∧ (vp_in (hI h 10 0 3) 30 ∧ (vp_in (hI h 10 0 3) 30 ∧ Q (some (vi (((hI h 10 0 3) + (1 : Int32)) - (1 : Int32)))) (setI (setI (setI (setI (setI (setI (setI (setI h 11 14 ((hI h 10 0 3).toNatClampNeg) (-9 : Int32)) 11 15 ((hI h 10 0 3).toNatClampNeg) (hI h 11 15 x2.toNatClampNeg)) 11 16 ((hI h 10 0 3).toNatClampNeg) x3) 11 17 ((hI h 10 0 3).toNatClampNeg) x4) 11 18 ((hI h 10 0 3).toNatClampNeg) x5) 11 20 ((hI h 10 0 3).toNatClampNeg) (-9 : Int32)) 10 0 3 ((hI h 10 0 3) + (1 : Int32))) 10 0 55 (0 : Int32))))))))) ∧ (¬ x1 = 0 → (vp_in (hI h 10 0 3) 30 ∧ (vp_in (hI h 10 0 3) 30 ∧ (vp_in (hI h 10 0 3) 30 ∧ (vp_in (hI h 10 0 3) 30 ∧ (vp_in (hI h 10 0 3) 30 ∧ Q (some (vi (((hI h 10 0 3) + (1 : Int32)) - (1 : Int32)))) (setI (setI (setI (setI (setI (setI (setI (setI h 11 14 ((hI h 10 0 3).toNatClampNeg) (-9 : Int32)) 11 15 ((hI h 10 0 3).toNatClampNeg) x2) 11 16 ((hI h 10 0 3).toNatClampNeg) x3) 11 17 ((hI h 10 0 3).toNatClampNeg) x4) 11 18 ((hI h 10 0 3).toNatClampNeg) x5) 11 20 ((hI h 10 0 3).toNatClampNeg) (-9 : Int32)) 10 0 3 ((hI h 10 0 3) + (1 : Int32))) 10 0 55 (0 : Int32))))))))))))) ∧ (¬ (hI h 12 0 x2.toNatClampNeg) = 0 → mT g me_fm_refuse (d + 1) 0 0 0 [some (vr 10 0), some (vi (-3 : Int32))] [] h (fun v h35 => ∃ y36, v = some (vi y36) ∧ mSK h35 ∧ Q (some (vi y36)) h35))))))) ∧ ((hI h 10 0 3) = (30 : Int32) → mT g me_fm_refuse (d + 1) 0 0 0 [some (vr 10 0), some (vi (-6 : Int32))] [] h (fun v h37 => ∃ y38, v = some (vi y38) ∧ mSK h37 ∧ Q (some (vi y38)) h37)))))))))) ∧ (¬ (1 : Int32) ≤ x5 → mT g me_fm_refuse (d + 1) 0 0 0 [some (vr 10 0), some (vi (-4 : Int32))] [] h (fun v h39 => ∃ y40, v = some (vi y40) ∧ mSK h39 ∧ Q (some (vi y40)) h39)))))))))))))) : mT g me_fm_joint (d + 2) 0 0 0 [some (vr 10 0), some (vi x1), some (vi x2), some (vi x3), some (vi x4), some (vi x5)] [] h Q := by
  refine tr_iload_n (pc := 0) 2 k_fm_joint_0 rfl rfl ?_
  refine tr_iload_n (pc := 1) 1 k_fm_joint_1 rfl rfl ?_
  refine tr_if_eq (pc := 2) 12 k_fm_joint_2 (by decide) (fun q => ?_) (fun q => ?_)
  · replace hv := hv.1 q
    refine tr_aload_n (pc := 12) 0 k_fm_joint_12 rfl rfl ?_
    refine tr_getIx (pc := 13) k_fm_joint_13 fl_fm_155 rfl rfl ?_
    refine tr_callS (pc := 16) (d' := d + 1) (mc' := 0) (ms' := 0) [vi x2, vi (hI h 10 0 3)] k_fm_joint_16 ca_fm_isIn ml_fm_144 is_fm_isIn pa_fm_isIn (by omega) (by omega) (by omega) rfl (Nat.le_of_ble_eq_true rfl) (Nat.le_of_ble_eq_true rfl) (Qk := fun v h9 => mT g me_fm_joint (d + 2) 0 0 19 [some (vr 10 0), some (vi x1), some (vi x2), some (vi x3), some (vi x4), some (vi x5)] (v.toList ++ []) h9 _) ?_ (fun _ _ z => z)
    show mT g me_fm_isIn (d + 1) 0 0 0 [some (vi x2), some (vi (hI h 10 0 3))] [] h _
    refine tr_iload_n (pc := 0) 0 k_fm_isIn_0 rfl rfl ?_
    refine tr_if_lt (pc := 1) 13 k_fm_isIn_1 (by decide) (fun q => ?_) (fun q => ?_)
    · replace hv := hv.1 q
      refine tr_iconst (pc := 13) (v := 0) k_fm_isIn_13 (by decide) ?_
      refine tr_ireturn (pc := 14) k_fm_isIn_14 rfl rfl ?_
      show mT g me_fm_joint (d + 2) 0 0 19 [some (vr 10 0), some (vi x1), some (vi x2), some (vi x3), some (vi x4), some (vi x5)] [vi (0 : Int32)] h _
      refine tr_if_ne (pc := 19) 28 k_fm_joint_19 (by decide) (fun q => absurd q (by decide)) (fun _ => ?_)
      refine tr_aload_n (pc := 22) 0 k_fm_joint_22 rfl rfl ?_
      refine tr_iconst (pc := 23) (v := -1) k_fm_joint_23 (by decide) ?_
      have hT := hv
      clear hv
      refine tr_callV (pc := 24) (d' := d + 1) (mc' := 0) (ms' := 0) [vi (-1 : Int32)] k_fm_joint_24 ca_fm_refuse ml_fm_133 ii_fm_refuse ⟨by decide, rfl⟩ pa_fm_refuse (by omega) (by omega) (by omega) rfl (Nat.le_of_ble_eq_true rfl) (Nat.le_of_ble_eq_true rfl) hT (fun v h9 hv => ?_)
      clear hT
      obtain ⟨y2, rfl, hv⟩ := hv
      obtain ⟨h1, eh⟩ : ∃ z, z = h9 := ⟨_, rfl⟩
      subst eh
      obtain ⟨hskh1, hv⟩ := hv
      show mT g me_fm_joint (d + 2) 0 0 27 [some (vr 10 0), some (vi x1), some (vi x2), some (vi x3), some (vi x4), some (vi x5)] [vi y2] h1 _
      refine tr_ireturn (pc := 27) k_fm_joint_27 rfl rfl ?_
      exact hv
    · replace hv := hv.2 q
      refine tr_iload_n (pc := 4) 0 k_fm_isIn_4 rfl rfl ?_
      refine tr_iload_n (pc := 5) 1 k_fm_isIn_5 rfl rfl ?_
      refine tr_icmp_ge (pc := 6) 13 k_fm_isIn_6 (by decide) (fun q => ?_) (fun q => ?_)
      · replace hv := hv.1 q
        refine tr_iconst (pc := 13) (v := 0) k_fm_isIn_13 (by decide) ?_
        refine tr_ireturn (pc := 14) k_fm_isIn_14 rfl rfl ?_
        show mT g me_fm_joint (d + 2) 0 0 19 [some (vr 10 0), some (vi x1), some (vi x2), some (vi x3), some (vi x4), some (vi x5)] [vi (0 : Int32)] h _
        refine tr_if_ne (pc := 19) 28 k_fm_joint_19 (by decide) (fun q => absurd q (by decide)) (fun _ => ?_)
        refine tr_aload_n (pc := 22) 0 k_fm_joint_22 rfl rfl ?_
        refine tr_iconst (pc := 23) (v := -1) k_fm_joint_23 (by decide) ?_
        have hT := hv
        clear hv
        refine tr_callV (pc := 24) (d' := d + 1) (mc' := 0) (ms' := 0) [vi (-1 : Int32)] k_fm_joint_24 ca_fm_refuse ml_fm_133 ii_fm_refuse ⟨by decide, rfl⟩ pa_fm_refuse (by omega) (by omega) (by omega) rfl (Nat.le_of_ble_eq_true rfl) (Nat.le_of_ble_eq_true rfl) hT (fun v h9 hv => ?_)
        clear hT
        obtain ⟨y4, rfl, hv⟩ := hv
        obtain ⟨h3, eh⟩ : ∃ z, z = h9 := ⟨_, rfl⟩
        subst eh
        obtain ⟨hskh3, hv⟩ := hv
        show mT g me_fm_joint (d + 2) 0 0 27 [some (vr 10 0), some (vi x1), some (vi x2), some (vi x3), some (vi x4), some (vi x5)] [vi y4] h3 _
        refine tr_ireturn (pc := 27) k_fm_joint_27 rfl rfl ?_
        exact hv
      · replace hv := hv.2 q
        refine tr_iconst (pc := 9) (v := 1) k_fm_isIn_9 (by decide) ?_
        refine tr_goto (pc := 10) 14 k_fm_isIn_10 (by decide) ?_
        refine tr_ireturn (pc := 14) k_fm_isIn_14 rfl rfl ?_
        show mT g me_fm_joint (d + 2) 0 0 19 [some (vr 10 0), some (vi x1), some (vi x2), some (vi x3), some (vi x4), some (vi x5)] [vi (1 : Int32)] h _
        refine tr_if_ne (pc := 19) 28 k_fm_joint_19 (by decide) (fun _ => ?_) (fun q => absurd q (by decide))
        refine tr_iload_n (pc := 28) 3 k_fm_joint_28 rfl rfl ?_
        refine tr_if_lt (pc := 29) 44 k_fm_joint_29 (by decide) (fun q => ?_) (fun q => ?_)
        · replace hv := hv.1 q
          refine tr_aload_n (pc := 44) 0 k_fm_joint_44 rfl rfl ?_
          refine tr_bipush (pc := 45) (v := -4) k_fm_joint_45 (by decide) ?_
          have hT := hv
          clear hv
          refine tr_callV (pc := 47) (d' := d + 1) (mc' := 0) (ms' := 0) [vi (-4 : Int32)] k_fm_joint_47 ca_fm_refuse ml_fm_133 ii_fm_refuse ⟨by decide, rfl⟩ pa_fm_refuse (by omega) (by omega) (by omega) rfl (Nat.le_of_ble_eq_true rfl) (Nat.le_of_ble_eq_true rfl) hT (fun v h9 hv => ?_)
          clear hT
          obtain ⟨y6, rfl, hv⟩ := hv
          obtain ⟨h5, eh⟩ : ∃ z, z = h9 := ⟨_, rfl⟩
          subst eh
          obtain ⟨hskh5, hv⟩ := hv
          show mT g me_fm_joint (d + 2) 0 0 50 [some (vr 10 0), some (vi x1), some (vi x2), some (vi x3), some (vi x4), some (vi x5)] [vi y6] h5 _
          refine tr_ireturn (pc := 50) k_fm_joint_50 rfl rfl ?_
          exact hv
        · replace hv := hv.2 q
          refine tr_iload (pc := 32) k_fm_joint_32 rfl ?_
          refine tr_iconst (pc := 34) (v := 1) k_fm_joint_34 (by decide) ?_
          refine tr_icmp_lt (pc := 35) 44 k_fm_joint_35 (by decide) (fun q => ?_) (fun q => ?_)
          · replace hv := hv.1 q
            refine tr_aload_n (pc := 44) 0 k_fm_joint_44 rfl rfl ?_
            refine tr_bipush (pc := 45) (v := -4) k_fm_joint_45 (by decide) ?_
            have hT := hv
            clear hv
            refine tr_callV (pc := 47) (d' := d + 1) (mc' := 0) (ms' := 0) [vi (-4 : Int32)] k_fm_joint_47 ca_fm_refuse ml_fm_133 ii_fm_refuse ⟨by decide, rfl⟩ pa_fm_refuse (by omega) (by omega) (by omega) rfl (Nat.le_of_ble_eq_true rfl) (Nat.le_of_ble_eq_true rfl) hT (fun v h9 hv => ?_)
            clear hT
            obtain ⟨y8, rfl, hv⟩ := hv
            obtain ⟨h7, eh⟩ : ∃ z, z = h9 := ⟨_, rfl⟩
            subst eh
            obtain ⟨hskh7, hv⟩ := hv
            show mT g me_fm_joint (d + 2) 0 0 50 [some (vr 10 0), some (vi x1), some (vi x2), some (vi x3), some (vi x4), some (vi x5)] [vi y8] h7 _
            refine tr_ireturn (pc := 50) k_fm_joint_50 rfl rfl ?_
            exact hv
          · replace hv := hv.2 q
            refine tr_iload (pc := 38) k_fm_joint_38 rfl ?_
            refine tr_iconst (pc := 40) (v := 1) k_fm_joint_40 (by decide) ?_
            refine tr_icmp_ge (pc := 41) 51 k_fm_joint_41 (by decide) (fun q => ?_) (fun q => ?_)
            · replace hv := hv.1 q
              refine tr_iload_n (pc := 51) 3 k_fm_joint_51 rfl rfl ?_
              refine tr_sipush (pc := 52) (v := 500) k_fm_joint_52 (by decide) ?_
              refine tr_icmp_gt (pc := 55) 82 k_fm_joint_55 (by decide) (fun q => ?_) (fun q => ?_)
              · replace hv := hv.1 q
                refine tr_aload_n (pc := 82) 0 k_fm_joint_82 rfl rfl ?_
                refine tr_bipush (pc := 83) (v := -6) k_fm_joint_83 (by decide) ?_
                have hT := hv
                clear hv
                refine tr_callV (pc := 85) (d' := d + 1) (mc' := 0) (ms' := 0) [vi (-6 : Int32)] k_fm_joint_85 ca_fm_refuse ml_fm_133 ii_fm_refuse ⟨by decide, rfl⟩ pa_fm_refuse (by omega) (by omega) (by omega) rfl (Nat.le_of_ble_eq_true rfl) (Nat.le_of_ble_eq_true rfl) hT (fun v h9 hv => ?_)
                clear hT
                obtain ⟨y10, rfl, hv⟩ := hv
                obtain ⟨h9, eh⟩ : ∃ z, z = h9 := ⟨_, rfl⟩
                subst eh
                obtain ⟨hskh9, hv⟩ := hv
                show mT g me_fm_joint (d + 2) 0 0 88 [some (vr 10 0), some (vi x1), some (vi x2), some (vi x3), some (vi x4), some (vi x5)] [vi y10] h9 _
                refine tr_ireturn (pc := 88) k_fm_joint_88 rfl rfl ?_
                exact hv
              · replace hv := hv.2 q
                refine tr_iload (pc := 58) k_fm_joint_58 rfl ?_
                refine tr_bipush (pc := 60) (v := 9) k_fm_joint_60 (by decide) ?_
                refine tr_icmp_gt (pc := 62) 82 k_fm_joint_62 (by decide) (fun q => ?_) (fun q => ?_)
                · replace hv := hv.1 q
                  refine tr_aload_n (pc := 82) 0 k_fm_joint_82 rfl rfl ?_
                  refine tr_bipush (pc := 83) (v := -6) k_fm_joint_83 (by decide) ?_
                  have hT := hv
                  clear hv
                  refine tr_callV (pc := 85) (d' := d + 1) (mc' := 0) (ms' := 0) [vi (-6 : Int32)] k_fm_joint_85 ca_fm_refuse ml_fm_133 ii_fm_refuse ⟨by decide, rfl⟩ pa_fm_refuse (by omega) (by omega) (by omega) rfl (Nat.le_of_ble_eq_true rfl) (Nat.le_of_ble_eq_true rfl) hT (fun v h9 hv => ?_)
                  clear hT
                  obtain ⟨y12, rfl, hv⟩ := hv
                  obtain ⟨h11, eh⟩ : ∃ z, z = h9 := ⟨_, rfl⟩
                  subst eh
                  obtain ⟨hskh11, hv⟩ := hv
                  show mT g me_fm_joint (d + 2) 0 0 88 [some (vr 10 0), some (vi x1), some (vi x2), some (vi x3), some (vi x4), some (vi x5)] [vi y12] h11 _
                  refine tr_ireturn (pc := 88) k_fm_joint_88 rfl rfl ?_
                  exact hv
                · replace hv := hv.2 q
                  refine tr_iload (pc := 65) k_fm_joint_65 rfl ?_
                  refine tr_sipush (pc := 67) (v := 200) k_fm_joint_67 (by decide) ?_
                  refine tr_icmp_gt (pc := 70) 82 k_fm_joint_70 (by decide) (fun q => ?_) (fun q => ?_)
                  · replace hv := hv.1 q
                    refine tr_aload_n (pc := 82) 0 k_fm_joint_82 rfl rfl ?_
                    refine tr_bipush (pc := 83) (v := -6) k_fm_joint_83 (by decide) ?_
                    have hT := hv
                    clear hv
                    refine tr_callV (pc := 85) (d' := d + 1) (mc' := 0) (ms' := 0) [vi (-6 : Int32)] k_fm_joint_85 ca_fm_refuse ml_fm_133 ii_fm_refuse ⟨by decide, rfl⟩ pa_fm_refuse (by omega) (by omega) (by omega) rfl (Nat.le_of_ble_eq_true rfl) (Nat.le_of_ble_eq_true rfl) hT (fun v h9 hv => ?_)
                    clear hT
                    obtain ⟨y14, rfl, hv⟩ := hv
                    obtain ⟨h13, eh⟩ : ∃ z, z = h9 := ⟨_, rfl⟩
                    subst eh
                    obtain ⟨hskh13, hv⟩ := hv
                    show mT g me_fm_joint (d + 2) 0 0 88 [some (vr 10 0), some (vi x1), some (vi x2), some (vi x3), some (vi x4), some (vi x5)] [vi y14] h13 _
                    refine tr_ireturn (pc := 88) k_fm_joint_88 rfl rfl ?_
                    exact hv
                  · replace hv := hv.2 q
                    refine tr_aload_n (pc := 73) 0 k_fm_joint_73 rfl rfl ?_
                    refine tr_getIx (pc := 74) k_fm_joint_74 fl_fm_155 rfl rfl ?_
                    refine tr_bipush (pc := 77) (v := 30) k_fm_joint_77 (by decide) ?_
                    refine tr_icmp_ne (pc := 79) 89 k_fm_joint_79 (by decide) (fun q => ?_) (fun q => ?_)
                    · replace hv := hv.1 q
                      refine tr_iload_n (pc := 89) 1 k_fm_joint_89 rfl rfl ?_
                      refine tr_if_ne (pc := 90) 109 k_fm_joint_90 (by decide) (fun q => ?_) (fun q => ?_)
                      · replace hv := hv.1 q
                        refine tr_aload_n (pc := 109) 0 k_fm_joint_109 rfl rfl ?_
                        refine tr_getP (pc := 110) k_fm_joint_110 fl_fm_38 rfl (Eq.trans rfl (hsk.1 10 15 _ rfl)) ?_
                        refine tr_aload_n (pc := 113) 0 k_fm_joint_113 rfl rfl ?_
                        refine tr_getIx (pc := 114) k_fm_joint_114 fl_fm_155 rfl rfl ?_
                        refine tr_iload_n (pc := 117) 1 k_fm_joint_117 rfl rfl ?_
                        refine tr_if_eq (pc := 118) 126 k_fm_joint_118 (by decide) (fun q => ?_) (fun q => ?_)
                        · replace hv := hv.1 q
                          refine tr_iload_n (pc := 126) 2 k_fm_joint_126 rfl rfl ?_
                          refine tr_iast (pc := 127) k_fm_joint_127 (mvin (hsk.2.1 11 14 _ rfl) hv.1) ?_
                          replace hv := hv.2
                          refine tr_aload_n (pc := 128) 0 k_fm_joint_128 rfl rfl ?_
                          refine tr_getP (pc := 129) k_fm_joint_129 fl_fm_41 rfl (Eq.trans (hP_setI) (hsk.1 10 16 _ rfl)) ?_
                          refine tr_aload_n (pc := 132) 0 k_fm_joint_132 rfl rfl ?_
                          refine tr_getIx (pc := 133) k_fm_joint_133 fl_fm_155 rfl (hI_nk (by decide)) ?_
                          refine tr_iload_n (pc := 136) 1 k_fm_joint_136 rfl rfl ?_
                          refine tr_if_eq (pc := 137) 144 k_fm_joint_137 (by decide) (fun q => ?_) (fun q => ?_)
                          · replace hv := hv.1 q
                            refine tr_aload_n (pc := 144) 0 k_fm_joint_144 rfl rfl ?_
                            refine tr_getP (pc := 145) k_fm_joint_145 fl_fm_41 rfl (Eq.trans (hP_setI) (hsk.1 10 16 _ rfl)) ?_
                            refine tr_iload_n (pc := 148) 2 k_fm_joint_148 rfl rfl ?_
                            refine tr_ialdx (pc := 149) k_fm_joint_149 (mvin (hsk.2.1 11 15 _ rfl) hv.1) (hI_nn (by decide)) ?_
                            replace hv := hv.2
                            refine tr_iast (pc := 150) k_fm_joint_150 (mvin (hsk.2.1 11 15 _ rfl) hv.1) ?_
                            replace hv := hv.2
                            refine tr_aload_n (pc := 151) 0 k_fm_joint_151 rfl rfl ?_
                            refine tr_getP (pc := 152) k_fm_joint_152 fl_fm_44 rfl (Eq.trans (Eq.trans (hP_setI) (hP_setI)) (hsk.1 10 17 _ rfl)) ?_
                            refine tr_aload_n (pc := 155) 0 k_fm_joint_155 rfl rfl ?_
                            refine tr_getIx (pc := 156) k_fm_joint_156 fl_fm_155 rfl (Eq.trans (hI_nk (by decide)) (hI_nk (by decide))) ?_
                            refine tr_iload_n (pc := 159) 3 k_fm_joint_159 rfl rfl ?_
                            refine tr_iast (pc := 160) k_fm_joint_160 (mvin (hsk.2.1 11 16 _ rfl) hv.1) ?_
                            replace hv := hv.2
                            refine tr_aload_n (pc := 161) 0 k_fm_joint_161 rfl rfl ?_
                            refine tr_getP (pc := 162) k_fm_joint_162 fl_fm_47 rfl (Eq.trans (Eq.trans (hP_setI) (Eq.trans (hP_setI) (hP_setI))) (hsk.1 10 18 _ rfl)) ?_
                            refine tr_aload_n (pc := 165) 0 k_fm_joint_165 rfl rfl ?_
                            refine tr_getIx (pc := 166) k_fm_joint_166 fl_fm_155 rfl (Eq.trans (hI_nk (by decide)) (Eq.trans (hI_nk (by decide)) (hI_nk (by decide)))) ?_
                            refine tr_iload (pc := 169) k_fm_joint_169 rfl ?_
                            refine tr_iast (pc := 171) k_fm_joint_171 (mvin (hsk.2.1 11 17 _ rfl) hv.1) ?_
                            replace hv := hv.2
                            refine tr_aload_n (pc := 172) 0 k_fm_joint_172 rfl rfl ?_
                            refine tr_getP (pc := 173) k_fm_joint_173 fl_fm_50 rfl (Eq.trans (Eq.trans (hP_setI) (Eq.trans (hP_setI) (Eq.trans (hP_setI) (hP_setI)))) (hsk.1 10 19 _ rfl)) ?_
                            refine tr_aload_n (pc := 176) 0 k_fm_joint_176 rfl rfl ?_
                            refine tr_getIx (pc := 177) k_fm_joint_177 fl_fm_155 rfl (Eq.trans (hI_nk (by decide)) (Eq.trans (hI_nk (by decide)) (Eq.trans (hI_nk (by decide)) (hI_nk (by decide))))) ?_
                            refine tr_iload (pc := 180) k_fm_joint_180 rfl ?_
                            refine tr_iast (pc := 182) k_fm_joint_182 (mvin (hsk.2.1 11 18 _ rfl) hv.1) ?_
                            replace hv := hv.2
                            refine tr_aload_n (pc := 183) 0 k_fm_joint_183 rfl rfl ?_
                            refine tr_getP (pc := 184) k_fm_joint_184 fl_fm_56 rfl (Eq.trans (Eq.trans (hP_setI) (Eq.trans (hP_setI) (Eq.trans (hP_setI) (Eq.trans (hP_setI) (hP_setI))))) (hsk.1 10 21 _ rfl)) ?_
                            refine tr_aload_n (pc := 187) 0 k_fm_joint_187 rfl rfl ?_
                            refine tr_getIx (pc := 188) k_fm_joint_188 fl_fm_155 rfl (Eq.trans (hI_nk (by decide)) (Eq.trans (hI_nk (by decide)) (Eq.trans (hI_nk (by decide)) (Eq.trans (hI_nk (by decide)) (hI_nk (by decide)))))) ?_
                            refine tr_bipush (pc := 191) (v := -9) k_fm_joint_191 (by decide) ?_
                            refine tr_iast (pc := 193) k_fm_joint_193 (mvin (hsk.2.1 11 20 _ rfl) hv.1) ?_
                            replace hv := hv.2
                            refine tr_aload_n (pc := 194) 0 k_fm_joint_194 rfl rfl ?_
                            refine tr_dup (pc := 195) k_fm_joint_195 rfl ?_
                            refine tr_getIx (pc := 196) k_fm_joint_196 fl_fm_155 rfl (Eq.trans (hI_nk (by decide)) (Eq.trans (hI_nk (by decide)) (Eq.trans (hI_nk (by decide)) (Eq.trans (hI_nk (by decide)) (Eq.trans (hI_nk (by decide)) (hI_nk (by decide))))))) ?_
                            refine tr_iconst (pc := 199) (v := 1) k_fm_joint_199 (by decide) ?_
                            refine tr_iadd (pc := 200) k_fm_joint_200 ?_
                            refine tr_putI (pc := 201) k_fm_joint_201 fl_fm_155 (Or.inl rfl) rfl ⟨rfl, rfl⟩ ?_
                            refine tr_aload_n (pc := 204) 0 k_fm_joint_204 rfl rfl ?_
                            refine tr_callV (pc := 205) (d' := d + 1) (mc' := 0) (ms' := 0) [] k_fm_joint_205 ca_fm_changes ml_fm_152 ii_fm_changes ⟨by decide, rfl⟩ pa_fm_changes (by omega) (by omega) (by omega) rfl (Nat.le_of_ble_eq_true rfl) (Nat.le_of_ble_eq_true rfl) (Qk := fun v h9 => mT g me_fm_joint (d + 2) 0 0 208 [some (vr 10 0), some (vi x1), some (vi x2), some (vi x3), some (vi x4), some (vi x5)] (v.toList ++ []) h9 _) ?_ (fun _ _ z => z)
                            show mT g me_fm_changes (d + 1) 0 0 0 [some (vr 10 0)] [] (setI (setI (setI (setI (setI (setI (setI h 11 14 ((hI h 10 0 3).toNatClampNeg) x2) 11 15 ((hI h 10 0 3).toNatClampNeg) (hI h 11 15 x2.toNatClampNeg)) 11 16 ((hI h 10 0 3).toNatClampNeg) x3) 11 17 ((hI h 10 0 3).toNatClampNeg) x4) 11 18 ((hI h 10 0 3).toNatClampNeg) x5) 11 20 ((hI h 10 0 3).toNatClampNeg) (-9 : Int32)) 10 0 3 ((hI h 10 0 3) + (1 : Int32))) _
                            refine tr_aload_n (pc := 0) 0 k_fm_changes_0 rfl rfl ?_
                            refine tr_iconst (pc := 1) (v := 0) k_fm_changes_1 (by decide) ?_
                            refine tr_putI (pc := 2) k_fm_changes_2 fl_fm_137 (Or.inl rfl) rfl ⟨rfl, rfl⟩ ?_
                            refine tr_return (pc := 5) k_fm_changes_5 rfl ?_
                            show mT g me_fm_joint (d + 2) 0 0 208 [some (vr 10 0), some (vi x1), some (vi x2), some (vi x3), some (vi x4), some (vi x5)] [] (setI (setI (setI (setI (setI (setI (setI (setI h 11 14 ((hI h 10 0 3).toNatClampNeg) x2) 11 15 ((hI h 10 0 3).toNatClampNeg) (hI h 11 15 x2.toNatClampNeg)) 11 16 ((hI h 10 0 3).toNatClampNeg) x3) 11 17 ((hI h 10 0 3).toNatClampNeg) x4) 11 18 ((hI h 10 0 3).toNatClampNeg) x5) 11 20 ((hI h 10 0 3).toNatClampNeg) (-9 : Int32)) 10 0 3 ((hI h 10 0 3) + (1 : Int32))) 10 0 55 (0 : Int32)) _
                            refine tr_aload_n (pc := 208) 0 k_fm_joint_208 rfl rfl ?_
                            refine tr_getIx (pc := 209) k_fm_joint_209 fl_fm_155 rfl (Eq.trans (hI_nf (by decide)) (hI_eq)) ?_
                            refine tr_iconst (pc := 212) (v := 1) k_fm_joint_212 (by decide) ?_
                            refine tr_isub (pc := 213) k_fm_joint_213 ?_
                            refine tr_ireturn (pc := 214) k_fm_joint_214 rfl rfl ?_
                            exact hv
                          · replace hv := hv.2 q
                            refine tr_iload_n (pc := 140) 2 k_fm_joint_140 rfl rfl ?_
                            refine tr_goto (pc := 141) 150 k_fm_joint_141 (by decide) ?_
                            refine tr_iast (pc := 150) k_fm_joint_150 (mvin (hsk.2.1 11 15 _ rfl) hv.1) ?_
                            replace hv := hv.2
                            refine tr_aload_n (pc := 151) 0 k_fm_joint_151 rfl rfl ?_
                            refine tr_getP (pc := 152) k_fm_joint_152 fl_fm_44 rfl (Eq.trans (Eq.trans (hP_setI) (hP_setI)) (hsk.1 10 17 _ rfl)) ?_
                            refine tr_aload_n (pc := 155) 0 k_fm_joint_155 rfl rfl ?_
                            refine tr_getIx (pc := 156) k_fm_joint_156 fl_fm_155 rfl (Eq.trans (hI_nk (by decide)) (hI_nk (by decide))) ?_
                            refine tr_iload_n (pc := 159) 3 k_fm_joint_159 rfl rfl ?_
                            refine tr_iast (pc := 160) k_fm_joint_160 (mvin (hsk.2.1 11 16 _ rfl) hv.1) ?_
                            replace hv := hv.2
                            refine tr_aload_n (pc := 161) 0 k_fm_joint_161 rfl rfl ?_
                            refine tr_getP (pc := 162) k_fm_joint_162 fl_fm_47 rfl (Eq.trans (Eq.trans (hP_setI) (Eq.trans (hP_setI) (hP_setI))) (hsk.1 10 18 _ rfl)) ?_
                            refine tr_aload_n (pc := 165) 0 k_fm_joint_165 rfl rfl ?_
                            refine tr_getIx (pc := 166) k_fm_joint_166 fl_fm_155 rfl (Eq.trans (hI_nk (by decide)) (Eq.trans (hI_nk (by decide)) (hI_nk (by decide)))) ?_
                            refine tr_iload (pc := 169) k_fm_joint_169 rfl ?_
                            refine tr_iast (pc := 171) k_fm_joint_171 (mvin (hsk.2.1 11 17 _ rfl) hv.1) ?_
                            replace hv := hv.2
                            refine tr_aload_n (pc := 172) 0 k_fm_joint_172 rfl rfl ?_
                            refine tr_getP (pc := 173) k_fm_joint_173 fl_fm_50 rfl (Eq.trans (Eq.trans (hP_setI) (Eq.trans (hP_setI) (Eq.trans (hP_setI) (hP_setI)))) (hsk.1 10 19 _ rfl)) ?_
                            refine tr_aload_n (pc := 176) 0 k_fm_joint_176 rfl rfl ?_
                            refine tr_getIx (pc := 177) k_fm_joint_177 fl_fm_155 rfl (Eq.trans (hI_nk (by decide)) (Eq.trans (hI_nk (by decide)) (Eq.trans (hI_nk (by decide)) (hI_nk (by decide))))) ?_
                            refine tr_iload (pc := 180) k_fm_joint_180 rfl ?_
                            refine tr_iast (pc := 182) k_fm_joint_182 (mvin (hsk.2.1 11 18 _ rfl) hv.1) ?_
                            replace hv := hv.2
                            refine tr_aload_n (pc := 183) 0 k_fm_joint_183 rfl rfl ?_
                            refine tr_getP (pc := 184) k_fm_joint_184 fl_fm_56 rfl (Eq.trans (Eq.trans (hP_setI) (Eq.trans (hP_setI) (Eq.trans (hP_setI) (Eq.trans (hP_setI) (hP_setI))))) (hsk.1 10 21 _ rfl)) ?_
                            refine tr_aload_n (pc := 187) 0 k_fm_joint_187 rfl rfl ?_
                            refine tr_getIx (pc := 188) k_fm_joint_188 fl_fm_155 rfl (Eq.trans (hI_nk (by decide)) (Eq.trans (hI_nk (by decide)) (Eq.trans (hI_nk (by decide)) (Eq.trans (hI_nk (by decide)) (hI_nk (by decide)))))) ?_
                            refine tr_bipush (pc := 191) (v := -9) k_fm_joint_191 (by decide) ?_
                            refine tr_iast (pc := 193) k_fm_joint_193 (mvin (hsk.2.1 11 20 _ rfl) hv.1) ?_
                            replace hv := hv.2
                            refine tr_aload_n (pc := 194) 0 k_fm_joint_194 rfl rfl ?_
                            refine tr_dup (pc := 195) k_fm_joint_195 rfl ?_
                            refine tr_getIx (pc := 196) k_fm_joint_196 fl_fm_155 rfl (Eq.trans (hI_nk (by decide)) (Eq.trans (hI_nk (by decide)) (Eq.trans (hI_nk (by decide)) (Eq.trans (hI_nk (by decide)) (Eq.trans (hI_nk (by decide)) (hI_nk (by decide))))))) ?_
                            refine tr_iconst (pc := 199) (v := 1) k_fm_joint_199 (by decide) ?_
                            refine tr_iadd (pc := 200) k_fm_joint_200 ?_
                            refine tr_putI (pc := 201) k_fm_joint_201 fl_fm_155 (Or.inl rfl) rfl ⟨rfl, rfl⟩ ?_
                            refine tr_aload_n (pc := 204) 0 k_fm_joint_204 rfl rfl ?_
                            refine tr_callV (pc := 205) (d' := d + 1) (mc' := 0) (ms' := 0) [] k_fm_joint_205 ca_fm_changes ml_fm_152 ii_fm_changes ⟨by decide, rfl⟩ pa_fm_changes (by omega) (by omega) (by omega) rfl (Nat.le_of_ble_eq_true rfl) (Nat.le_of_ble_eq_true rfl) (Qk := fun v h9 => mT g me_fm_joint (d + 2) 0 0 208 [some (vr 10 0), some (vi x1), some (vi x2), some (vi x3), some (vi x4), some (vi x5)] (v.toList ++ []) h9 _) ?_ (fun _ _ z => z)
                            show mT g me_fm_changes (d + 1) 0 0 0 [some (vr 10 0)] [] (setI (setI (setI (setI (setI (setI (setI h 11 14 ((hI h 10 0 3).toNatClampNeg) x2) 11 15 ((hI h 10 0 3).toNatClampNeg) x2) 11 16 ((hI h 10 0 3).toNatClampNeg) x3) 11 17 ((hI h 10 0 3).toNatClampNeg) x4) 11 18 ((hI h 10 0 3).toNatClampNeg) x5) 11 20 ((hI h 10 0 3).toNatClampNeg) (-9 : Int32)) 10 0 3 ((hI h 10 0 3) + (1 : Int32))) _
                            refine tr_aload_n (pc := 0) 0 k_fm_changes_0 rfl rfl ?_
                            refine tr_iconst (pc := 1) (v := 0) k_fm_changes_1 (by decide) ?_
                            refine tr_putI (pc := 2) k_fm_changes_2 fl_fm_137 (Or.inl rfl) rfl ⟨rfl, rfl⟩ ?_
                            refine tr_return (pc := 5) k_fm_changes_5 rfl ?_
                            show mT g me_fm_joint (d + 2) 0 0 208 [some (vr 10 0), some (vi x1), some (vi x2), some (vi x3), some (vi x4), some (vi x5)] [] (setI (setI (setI (setI (setI (setI (setI (setI h 11 14 ((hI h 10 0 3).toNatClampNeg) x2) 11 15 ((hI h 10 0 3).toNatClampNeg) x2) 11 16 ((hI h 10 0 3).toNatClampNeg) x3) 11 17 ((hI h 10 0 3).toNatClampNeg) x4) 11 18 ((hI h 10 0 3).toNatClampNeg) x5) 11 20 ((hI h 10 0 3).toNatClampNeg) (-9 : Int32)) 10 0 3 ((hI h 10 0 3) + (1 : Int32))) 10 0 55 (0 : Int32)) _
                            refine tr_aload_n (pc := 208) 0 k_fm_joint_208 rfl rfl ?_
                            refine tr_getIx (pc := 209) k_fm_joint_209 fl_fm_155 rfl (Eq.trans (hI_nf (by decide)) (hI_eq)) ?_
                            refine tr_iconst (pc := 212) (v := 1) k_fm_joint_212 (by decide) ?_
                            refine tr_isub (pc := 213) k_fm_joint_213 ?_
                            refine tr_ireturn (pc := 214) k_fm_joint_214 rfl rfl ?_
                            exact hv
                        · replace hv := hv.2 q
                          refine tr_bipush (pc := 121) (v := -9) k_fm_joint_121 (by decide) ?_
                          refine tr_goto (pc := 123) 127 k_fm_joint_123 (by decide) ?_
                          refine tr_iast (pc := 127) k_fm_joint_127 (mvin (hsk.2.1 11 14 _ rfl) hv.1) ?_
                          replace hv := hv.2
                          refine tr_aload_n (pc := 128) 0 k_fm_joint_128 rfl rfl ?_
                          refine tr_getP (pc := 129) k_fm_joint_129 fl_fm_41 rfl (Eq.trans (hP_setI) (hsk.1 10 16 _ rfl)) ?_
                          refine tr_aload_n (pc := 132) 0 k_fm_joint_132 rfl rfl ?_
                          refine tr_getIx (pc := 133) k_fm_joint_133 fl_fm_155 rfl (hI_nk (by decide)) ?_
                          refine tr_iload_n (pc := 136) 1 k_fm_joint_136 rfl rfl ?_
                          refine tr_if_eq (pc := 137) 144 k_fm_joint_137 (by decide) (fun q => ?_) (fun q => ?_)
                          · replace hv := hv.1 q
                            refine tr_aload_n (pc := 144) 0 k_fm_joint_144 rfl rfl ?_
                            refine tr_getP (pc := 145) k_fm_joint_145 fl_fm_41 rfl (Eq.trans (hP_setI) (hsk.1 10 16 _ rfl)) ?_
                            refine tr_iload_n (pc := 148) 2 k_fm_joint_148 rfl rfl ?_
                            refine tr_ialdx (pc := 149) k_fm_joint_149 (mvin (hsk.2.1 11 15 _ rfl) hv.1) (hI_nn (by decide)) ?_
                            replace hv := hv.2
                            refine tr_iast (pc := 150) k_fm_joint_150 (mvin (hsk.2.1 11 15 _ rfl) hv.1) ?_
                            replace hv := hv.2
                            refine tr_aload_n (pc := 151) 0 k_fm_joint_151 rfl rfl ?_
                            refine tr_getP (pc := 152) k_fm_joint_152 fl_fm_44 rfl (Eq.trans (Eq.trans (hP_setI) (hP_setI)) (hsk.1 10 17 _ rfl)) ?_
                            refine tr_aload_n (pc := 155) 0 k_fm_joint_155 rfl rfl ?_
                            refine tr_getIx (pc := 156) k_fm_joint_156 fl_fm_155 rfl (Eq.trans (hI_nk (by decide)) (hI_nk (by decide))) ?_
                            refine tr_iload_n (pc := 159) 3 k_fm_joint_159 rfl rfl ?_
                            refine tr_iast (pc := 160) k_fm_joint_160 (mvin (hsk.2.1 11 16 _ rfl) hv.1) ?_
                            replace hv := hv.2
                            refine tr_aload_n (pc := 161) 0 k_fm_joint_161 rfl rfl ?_
                            refine tr_getP (pc := 162) k_fm_joint_162 fl_fm_47 rfl (Eq.trans (Eq.trans (hP_setI) (Eq.trans (hP_setI) (hP_setI))) (hsk.1 10 18 _ rfl)) ?_
                            refine tr_aload_n (pc := 165) 0 k_fm_joint_165 rfl rfl ?_
                            refine tr_getIx (pc := 166) k_fm_joint_166 fl_fm_155 rfl (Eq.trans (hI_nk (by decide)) (Eq.trans (hI_nk (by decide)) (hI_nk (by decide)))) ?_
                            refine tr_iload (pc := 169) k_fm_joint_169 rfl ?_
                            refine tr_iast (pc := 171) k_fm_joint_171 (mvin (hsk.2.1 11 17 _ rfl) hv.1) ?_
                            replace hv := hv.2
                            refine tr_aload_n (pc := 172) 0 k_fm_joint_172 rfl rfl ?_
                            refine tr_getP (pc := 173) k_fm_joint_173 fl_fm_50 rfl (Eq.trans (Eq.trans (hP_setI) (Eq.trans (hP_setI) (Eq.trans (hP_setI) (hP_setI)))) (hsk.1 10 19 _ rfl)) ?_
                            refine tr_aload_n (pc := 176) 0 k_fm_joint_176 rfl rfl ?_
                            refine tr_getIx (pc := 177) k_fm_joint_177 fl_fm_155 rfl (Eq.trans (hI_nk (by decide)) (Eq.trans (hI_nk (by decide)) (Eq.trans (hI_nk (by decide)) (hI_nk (by decide))))) ?_
                            refine tr_iload (pc := 180) k_fm_joint_180 rfl ?_
                            refine tr_iast (pc := 182) k_fm_joint_182 (mvin (hsk.2.1 11 18 _ rfl) hv.1) ?_
                            replace hv := hv.2
                            refine tr_aload_n (pc := 183) 0 k_fm_joint_183 rfl rfl ?_
                            refine tr_getP (pc := 184) k_fm_joint_184 fl_fm_56 rfl (Eq.trans (Eq.trans (hP_setI) (Eq.trans (hP_setI) (Eq.trans (hP_setI) (Eq.trans (hP_setI) (hP_setI))))) (hsk.1 10 21 _ rfl)) ?_
                            refine tr_aload_n (pc := 187) 0 k_fm_joint_187 rfl rfl ?_
                            refine tr_getIx (pc := 188) k_fm_joint_188 fl_fm_155 rfl (Eq.trans (hI_nk (by decide)) (Eq.trans (hI_nk (by decide)) (Eq.trans (hI_nk (by decide)) (Eq.trans (hI_nk (by decide)) (hI_nk (by decide)))))) ?_
                            refine tr_bipush (pc := 191) (v := -9) k_fm_joint_191 (by decide) ?_
                            refine tr_iast (pc := 193) k_fm_joint_193 (mvin (hsk.2.1 11 20 _ rfl) hv.1) ?_
                            replace hv := hv.2
                            refine tr_aload_n (pc := 194) 0 k_fm_joint_194 rfl rfl ?_
                            refine tr_dup (pc := 195) k_fm_joint_195 rfl ?_
                            refine tr_getIx (pc := 196) k_fm_joint_196 fl_fm_155 rfl (Eq.trans (hI_nk (by decide)) (Eq.trans (hI_nk (by decide)) (Eq.trans (hI_nk (by decide)) (Eq.trans (hI_nk (by decide)) (Eq.trans (hI_nk (by decide)) (hI_nk (by decide))))))) ?_
                            refine tr_iconst (pc := 199) (v := 1) k_fm_joint_199 (by decide) ?_
                            refine tr_iadd (pc := 200) k_fm_joint_200 ?_
                            refine tr_putI (pc := 201) k_fm_joint_201 fl_fm_155 (Or.inl rfl) rfl ⟨rfl, rfl⟩ ?_
                            refine tr_aload_n (pc := 204) 0 k_fm_joint_204 rfl rfl ?_
                            refine tr_callV (pc := 205) (d' := d + 1) (mc' := 0) (ms' := 0) [] k_fm_joint_205 ca_fm_changes ml_fm_152 ii_fm_changes ⟨by decide, rfl⟩ pa_fm_changes (by omega) (by omega) (by omega) rfl (Nat.le_of_ble_eq_true rfl) (Nat.le_of_ble_eq_true rfl) (Qk := fun v h9 => mT g me_fm_joint (d + 2) 0 0 208 [some (vr 10 0), some (vi x1), some (vi x2), some (vi x3), some (vi x4), some (vi x5)] (v.toList ++ []) h9 _) ?_ (fun _ _ z => z)
                            show mT g me_fm_changes (d + 1) 0 0 0 [some (vr 10 0)] [] (setI (setI (setI (setI (setI (setI (setI h 11 14 ((hI h 10 0 3).toNatClampNeg) (-9 : Int32)) 11 15 ((hI h 10 0 3).toNatClampNeg) (hI h 11 15 x2.toNatClampNeg)) 11 16 ((hI h 10 0 3).toNatClampNeg) x3) 11 17 ((hI h 10 0 3).toNatClampNeg) x4) 11 18 ((hI h 10 0 3).toNatClampNeg) x5) 11 20 ((hI h 10 0 3).toNatClampNeg) (-9 : Int32)) 10 0 3 ((hI h 10 0 3) + (1 : Int32))) _
                            refine tr_aload_n (pc := 0) 0 k_fm_changes_0 rfl rfl ?_
                            refine tr_iconst (pc := 1) (v := 0) k_fm_changes_1 (by decide) ?_
                            refine tr_putI (pc := 2) k_fm_changes_2 fl_fm_137 (Or.inl rfl) rfl ⟨rfl, rfl⟩ ?_
                            refine tr_return (pc := 5) k_fm_changes_5 rfl ?_
                            show mT g me_fm_joint (d + 2) 0 0 208 [some (vr 10 0), some (vi x1), some (vi x2), some (vi x3), some (vi x4), some (vi x5)] [] (setI (setI (setI (setI (setI (setI (setI (setI h 11 14 ((hI h 10 0 3).toNatClampNeg) (-9 : Int32)) 11 15 ((hI h 10 0 3).toNatClampNeg) (hI h 11 15 x2.toNatClampNeg)) 11 16 ((hI h 10 0 3).toNatClampNeg) x3) 11 17 ((hI h 10 0 3).toNatClampNeg) x4) 11 18 ((hI h 10 0 3).toNatClampNeg) x5) 11 20 ((hI h 10 0 3).toNatClampNeg) (-9 : Int32)) 10 0 3 ((hI h 10 0 3) + (1 : Int32))) 10 0 55 (0 : Int32)) _
                            refine tr_aload_n (pc := 208) 0 k_fm_joint_208 rfl rfl ?_
                            refine tr_getIx (pc := 209) k_fm_joint_209 fl_fm_155 rfl (Eq.trans (hI_nf (by decide)) (hI_eq)) ?_
                            refine tr_iconst (pc := 212) (v := 1) k_fm_joint_212 (by decide) ?_
                            refine tr_isub (pc := 213) k_fm_joint_213 ?_
                            refine tr_ireturn (pc := 214) k_fm_joint_214 rfl rfl ?_
                            exact hv
                          · replace hv := hv.2 q
                            refine tr_iload_n (pc := 140) 2 k_fm_joint_140 rfl rfl ?_
                            refine tr_goto (pc := 141) 150 k_fm_joint_141 (by decide) ?_
                            refine tr_iast (pc := 150) k_fm_joint_150 (mvin (hsk.2.1 11 15 _ rfl) hv.1) ?_
                            replace hv := hv.2
                            refine tr_aload_n (pc := 151) 0 k_fm_joint_151 rfl rfl ?_
                            refine tr_getP (pc := 152) k_fm_joint_152 fl_fm_44 rfl (Eq.trans (Eq.trans (hP_setI) (hP_setI)) (hsk.1 10 17 _ rfl)) ?_
                            refine tr_aload_n (pc := 155) 0 k_fm_joint_155 rfl rfl ?_
                            refine tr_getIx (pc := 156) k_fm_joint_156 fl_fm_155 rfl (Eq.trans (hI_nk (by decide)) (hI_nk (by decide))) ?_
                            refine tr_iload_n (pc := 159) 3 k_fm_joint_159 rfl rfl ?_
                            refine tr_iast (pc := 160) k_fm_joint_160 (mvin (hsk.2.1 11 16 _ rfl) hv.1) ?_
                            replace hv := hv.2
                            refine tr_aload_n (pc := 161) 0 k_fm_joint_161 rfl rfl ?_
                            refine tr_getP (pc := 162) k_fm_joint_162 fl_fm_47 rfl (Eq.trans (Eq.trans (hP_setI) (Eq.trans (hP_setI) (hP_setI))) (hsk.1 10 18 _ rfl)) ?_
                            refine tr_aload_n (pc := 165) 0 k_fm_joint_165 rfl rfl ?_
                            refine tr_getIx (pc := 166) k_fm_joint_166 fl_fm_155 rfl (Eq.trans (hI_nk (by decide)) (Eq.trans (hI_nk (by decide)) (hI_nk (by decide)))) ?_
                            refine tr_iload (pc := 169) k_fm_joint_169 rfl ?_
                            refine tr_iast (pc := 171) k_fm_joint_171 (mvin (hsk.2.1 11 17 _ rfl) hv.1) ?_
                            replace hv := hv.2
                            refine tr_aload_n (pc := 172) 0 k_fm_joint_172 rfl rfl ?_
                            refine tr_getP (pc := 173) k_fm_joint_173 fl_fm_50 rfl (Eq.trans (Eq.trans (hP_setI) (Eq.trans (hP_setI) (Eq.trans (hP_setI) (hP_setI)))) (hsk.1 10 19 _ rfl)) ?_
                            refine tr_aload_n (pc := 176) 0 k_fm_joint_176 rfl rfl ?_
                            refine tr_getIx (pc := 177) k_fm_joint_177 fl_fm_155 rfl (Eq.trans (hI_nk (by decide)) (Eq.trans (hI_nk (by decide)) (Eq.trans (hI_nk (by decide)) (hI_nk (by decide))))) ?_
                            refine tr_iload (pc := 180) k_fm_joint_180 rfl ?_
                            refine tr_iast (pc := 182) k_fm_joint_182 (mvin (hsk.2.1 11 18 _ rfl) hv.1) ?_
                            replace hv := hv.2
                            refine tr_aload_n (pc := 183) 0 k_fm_joint_183 rfl rfl ?_
                            refine tr_getP (pc := 184) k_fm_joint_184 fl_fm_56 rfl (Eq.trans (Eq.trans (hP_setI) (Eq.trans (hP_setI) (Eq.trans (hP_setI) (Eq.trans (hP_setI) (hP_setI))))) (hsk.1 10 21 _ rfl)) ?_
                            refine tr_aload_n (pc := 187) 0 k_fm_joint_187 rfl rfl ?_
                            refine tr_getIx (pc := 188) k_fm_joint_188 fl_fm_155 rfl (Eq.trans (hI_nk (by decide)) (Eq.trans (hI_nk (by decide)) (Eq.trans (hI_nk (by decide)) (Eq.trans (hI_nk (by decide)) (hI_nk (by decide)))))) ?_
                            refine tr_bipush (pc := 191) (v := -9) k_fm_joint_191 (by decide) ?_
                            refine tr_iast (pc := 193) k_fm_joint_193 (mvin (hsk.2.1 11 20 _ rfl) hv.1) ?_
                            replace hv := hv.2
                            refine tr_aload_n (pc := 194) 0 k_fm_joint_194 rfl rfl ?_
                            refine tr_dup (pc := 195) k_fm_joint_195 rfl ?_
                            refine tr_getIx (pc := 196) k_fm_joint_196 fl_fm_155 rfl (Eq.trans (hI_nk (by decide)) (Eq.trans (hI_nk (by decide)) (Eq.trans (hI_nk (by decide)) (Eq.trans (hI_nk (by decide)) (Eq.trans (hI_nk (by decide)) (hI_nk (by decide))))))) ?_
                            refine tr_iconst (pc := 199) (v := 1) k_fm_joint_199 (by decide) ?_
                            refine tr_iadd (pc := 200) k_fm_joint_200 ?_
                            refine tr_putI (pc := 201) k_fm_joint_201 fl_fm_155 (Or.inl rfl) rfl ⟨rfl, rfl⟩ ?_
                            refine tr_aload_n (pc := 204) 0 k_fm_joint_204 rfl rfl ?_
                            refine tr_callV (pc := 205) (d' := d + 1) (mc' := 0) (ms' := 0) [] k_fm_joint_205 ca_fm_changes ml_fm_152 ii_fm_changes ⟨by decide, rfl⟩ pa_fm_changes (by omega) (by omega) (by omega) rfl (Nat.le_of_ble_eq_true rfl) (Nat.le_of_ble_eq_true rfl) (Qk := fun v h9 => mT g me_fm_joint (d + 2) 0 0 208 [some (vr 10 0), some (vi x1), some (vi x2), some (vi x3), some (vi x4), some (vi x5)] (v.toList ++ []) h9 _) ?_ (fun _ _ z => z)
                            show mT g me_fm_changes (d + 1) 0 0 0 [some (vr 10 0)] [] (setI (setI (setI (setI (setI (setI (setI h 11 14 ((hI h 10 0 3).toNatClampNeg) (-9 : Int32)) 11 15 ((hI h 10 0 3).toNatClampNeg) x2) 11 16 ((hI h 10 0 3).toNatClampNeg) x3) 11 17 ((hI h 10 0 3).toNatClampNeg) x4) 11 18 ((hI h 10 0 3).toNatClampNeg) x5) 11 20 ((hI h 10 0 3).toNatClampNeg) (-9 : Int32)) 10 0 3 ((hI h 10 0 3) + (1 : Int32))) _
                            refine tr_aload_n (pc := 0) 0 k_fm_changes_0 rfl rfl ?_
                            refine tr_iconst (pc := 1) (v := 0) k_fm_changes_1 (by decide) ?_
                            refine tr_putI (pc := 2) k_fm_changes_2 fl_fm_137 (Or.inl rfl) rfl ⟨rfl, rfl⟩ ?_
                            refine tr_return (pc := 5) k_fm_changes_5 rfl ?_
                            show mT g me_fm_joint (d + 2) 0 0 208 [some (vr 10 0), some (vi x1), some (vi x2), some (vi x3), some (vi x4), some (vi x5)] [] (setI (setI (setI (setI (setI (setI (setI (setI h 11 14 ((hI h 10 0 3).toNatClampNeg) (-9 : Int32)) 11 15 ((hI h 10 0 3).toNatClampNeg) x2) 11 16 ((hI h 10 0 3).toNatClampNeg) x3) 11 17 ((hI h 10 0 3).toNatClampNeg) x4) 11 18 ((hI h 10 0 3).toNatClampNeg) x5) 11 20 ((hI h 10 0 3).toNatClampNeg) (-9 : Int32)) 10 0 3 ((hI h 10 0 3) + (1 : Int32))) 10 0 55 (0 : Int32)) _
                            refine tr_aload_n (pc := 208) 0 k_fm_joint_208 rfl rfl ?_
                            refine tr_getIx (pc := 209) k_fm_joint_209 fl_fm_155 rfl (Eq.trans (hI_nf (by decide)) (hI_eq)) ?_
                            refine tr_iconst (pc := 212) (v := 1) k_fm_joint_212 (by decide) ?_
                            refine tr_isub (pc := 213) k_fm_joint_213 ?_
                            refine tr_ireturn (pc := 214) k_fm_joint_214 rfl rfl ?_
                            exact hv
                      · replace hv := hv.2 q
                        refine tr_aload_n (pc := 93) 0 k_fm_joint_93 rfl rfl ?_
                        refine tr_getP (pc := 94) k_fm_joint_94 fl_fm_59 rfl (Eq.trans rfl (hsk.1 10 22 _ rfl)) ?_
                        refine tr_iload_n (pc := 97) 2 k_fm_joint_97 rfl rfl ?_
                        refine tr_zaldx (pc := 98) k_fm_joint_98 (mvin (hsk.2.1 12 0 _ rfl) hv.1) rfl ?_
                        replace hv := hv.2
                        refine tr_if_eq (pc := 99) 109 k_fm_joint_99 (by decide) (fun q => ?_) (fun q => ?_)
                        · replace hv := hv.1 q
                          refine tr_aload_n (pc := 109) 0 k_fm_joint_109 rfl rfl ?_
                          refine tr_getP (pc := 110) k_fm_joint_110 fl_fm_38 rfl (Eq.trans rfl (hsk.1 10 15 _ rfl)) ?_
                          refine tr_aload_n (pc := 113) 0 k_fm_joint_113 rfl rfl ?_
                          refine tr_getIx (pc := 114) k_fm_joint_114 fl_fm_155 rfl rfl ?_
                          refine tr_iload_n (pc := 117) 1 k_fm_joint_117 rfl rfl ?_
                          refine tr_if_eq (pc := 118) 126 k_fm_joint_118 (by decide) (fun q => ?_) (fun q => ?_)
                          · replace hv := hv.1 q
                            refine tr_iload_n (pc := 126) 2 k_fm_joint_126 rfl rfl ?_
                            refine tr_iast (pc := 127) k_fm_joint_127 (mvin (hsk.2.1 11 14 _ rfl) hv.1) ?_
                            replace hv := hv.2
                            refine tr_aload_n (pc := 128) 0 k_fm_joint_128 rfl rfl ?_
                            refine tr_getP (pc := 129) k_fm_joint_129 fl_fm_41 rfl (Eq.trans (hP_setI) (hsk.1 10 16 _ rfl)) ?_
                            refine tr_aload_n (pc := 132) 0 k_fm_joint_132 rfl rfl ?_
                            refine tr_getIx (pc := 133) k_fm_joint_133 fl_fm_155 rfl (hI_nk (by decide)) ?_
                            refine tr_iload_n (pc := 136) 1 k_fm_joint_136 rfl rfl ?_
                            refine tr_if_eq (pc := 137) 144 k_fm_joint_137 (by decide) (fun q => ?_) (fun q => ?_)
                            · replace hv := hv.1 q
                              refine tr_aload_n (pc := 144) 0 k_fm_joint_144 rfl rfl ?_
                              refine tr_getP (pc := 145) k_fm_joint_145 fl_fm_41 rfl (Eq.trans (hP_setI) (hsk.1 10 16 _ rfl)) ?_
                              refine tr_iload_n (pc := 148) 2 k_fm_joint_148 rfl rfl ?_
                              refine tr_ialdx (pc := 149) k_fm_joint_149 (mvin (hsk.2.1 11 15 _ rfl) hv.1) (hI_nn (by decide)) ?_
                              replace hv := hv.2
                              refine tr_iast (pc := 150) k_fm_joint_150 (mvin (hsk.2.1 11 15 _ rfl) hv.1) ?_
                              replace hv := hv.2
                              refine tr_aload_n (pc := 151) 0 k_fm_joint_151 rfl rfl ?_
                              refine tr_getP (pc := 152) k_fm_joint_152 fl_fm_44 rfl (Eq.trans (Eq.trans (hP_setI) (hP_setI)) (hsk.1 10 17 _ rfl)) ?_
                              refine tr_aload_n (pc := 155) 0 k_fm_joint_155 rfl rfl ?_
                              refine tr_getIx (pc := 156) k_fm_joint_156 fl_fm_155 rfl (Eq.trans (hI_nk (by decide)) (hI_nk (by decide))) ?_
                              refine tr_iload_n (pc := 159) 3 k_fm_joint_159 rfl rfl ?_
                              refine tr_iast (pc := 160) k_fm_joint_160 (mvin (hsk.2.1 11 16 _ rfl) hv.1) ?_
                              replace hv := hv.2
                              refine tr_aload_n (pc := 161) 0 k_fm_joint_161 rfl rfl ?_
                              refine tr_getP (pc := 162) k_fm_joint_162 fl_fm_47 rfl (Eq.trans (Eq.trans (hP_setI) (Eq.trans (hP_setI) (hP_setI))) (hsk.1 10 18 _ rfl)) ?_
                              refine tr_aload_n (pc := 165) 0 k_fm_joint_165 rfl rfl ?_
                              refine tr_getIx (pc := 166) k_fm_joint_166 fl_fm_155 rfl (Eq.trans (hI_nk (by decide)) (Eq.trans (hI_nk (by decide)) (hI_nk (by decide)))) ?_
                              refine tr_iload (pc := 169) k_fm_joint_169 rfl ?_
                              refine tr_iast (pc := 171) k_fm_joint_171 (mvin (hsk.2.1 11 17 _ rfl) hv.1) ?_
                              replace hv := hv.2
                              refine tr_aload_n (pc := 172) 0 k_fm_joint_172 rfl rfl ?_
                              refine tr_getP (pc := 173) k_fm_joint_173 fl_fm_50 rfl (Eq.trans (Eq.trans (hP_setI) (Eq.trans (hP_setI) (Eq.trans (hP_setI) (hP_setI)))) (hsk.1 10 19 _ rfl)) ?_
                              refine tr_aload_n (pc := 176) 0 k_fm_joint_176 rfl rfl ?_
                              refine tr_getIx (pc := 177) k_fm_joint_177 fl_fm_155 rfl (Eq.trans (hI_nk (by decide)) (Eq.trans (hI_nk (by decide)) (Eq.trans (hI_nk (by decide)) (hI_nk (by decide))))) ?_
                              refine tr_iload (pc := 180) k_fm_joint_180 rfl ?_
                              refine tr_iast (pc := 182) k_fm_joint_182 (mvin (hsk.2.1 11 18 _ rfl) hv.1) ?_
                              replace hv := hv.2
                              refine tr_aload_n (pc := 183) 0 k_fm_joint_183 rfl rfl ?_
                              refine tr_getP (pc := 184) k_fm_joint_184 fl_fm_56 rfl (Eq.trans (Eq.trans (hP_setI) (Eq.trans (hP_setI) (Eq.trans (hP_setI) (Eq.trans (hP_setI) (hP_setI))))) (hsk.1 10 21 _ rfl)) ?_
                              refine tr_aload_n (pc := 187) 0 k_fm_joint_187 rfl rfl ?_
                              refine tr_getIx (pc := 188) k_fm_joint_188 fl_fm_155 rfl (Eq.trans (hI_nk (by decide)) (Eq.trans (hI_nk (by decide)) (Eq.trans (hI_nk (by decide)) (Eq.trans (hI_nk (by decide)) (hI_nk (by decide)))))) ?_
                              refine tr_bipush (pc := 191) (v := -9) k_fm_joint_191 (by decide) ?_
                              refine tr_iast (pc := 193) k_fm_joint_193 (mvin (hsk.2.1 11 20 _ rfl) hv.1) ?_
                              replace hv := hv.2
                              refine tr_aload_n (pc := 194) 0 k_fm_joint_194 rfl rfl ?_
                              refine tr_dup (pc := 195) k_fm_joint_195 rfl ?_
                              refine tr_getIx (pc := 196) k_fm_joint_196 fl_fm_155 rfl (Eq.trans (hI_nk (by decide)) (Eq.trans (hI_nk (by decide)) (Eq.trans (hI_nk (by decide)) (Eq.trans (hI_nk (by decide)) (Eq.trans (hI_nk (by decide)) (hI_nk (by decide))))))) ?_
                              refine tr_iconst (pc := 199) (v := 1) k_fm_joint_199 (by decide) ?_
                              refine tr_iadd (pc := 200) k_fm_joint_200 ?_
                              refine tr_putI (pc := 201) k_fm_joint_201 fl_fm_155 (Or.inl rfl) rfl ⟨rfl, rfl⟩ ?_
                              refine tr_aload_n (pc := 204) 0 k_fm_joint_204 rfl rfl ?_
                              refine tr_callV (pc := 205) (d' := d + 1) (mc' := 0) (ms' := 0) [] k_fm_joint_205 ca_fm_changes ml_fm_152 ii_fm_changes ⟨by decide, rfl⟩ pa_fm_changes (by omega) (by omega) (by omega) rfl (Nat.le_of_ble_eq_true rfl) (Nat.le_of_ble_eq_true rfl) (Qk := fun v h9 => mT g me_fm_joint (d + 2) 0 0 208 [some (vr 10 0), some (vi x1), some (vi x2), some (vi x3), some (vi x4), some (vi x5)] (v.toList ++ []) h9 _) ?_ (fun _ _ z => z)
                              show mT g me_fm_changes (d + 1) 0 0 0 [some (vr 10 0)] [] (setI (setI (setI (setI (setI (setI (setI h 11 14 ((hI h 10 0 3).toNatClampNeg) x2) 11 15 ((hI h 10 0 3).toNatClampNeg) (hI h 11 15 x2.toNatClampNeg)) 11 16 ((hI h 10 0 3).toNatClampNeg) x3) 11 17 ((hI h 10 0 3).toNatClampNeg) x4) 11 18 ((hI h 10 0 3).toNatClampNeg) x5) 11 20 ((hI h 10 0 3).toNatClampNeg) (-9 : Int32)) 10 0 3 ((hI h 10 0 3) + (1 : Int32))) _
                              refine tr_aload_n (pc := 0) 0 k_fm_changes_0 rfl rfl ?_
                              refine tr_iconst (pc := 1) (v := 0) k_fm_changes_1 (by decide) ?_
                              refine tr_putI (pc := 2) k_fm_changes_2 fl_fm_137 (Or.inl rfl) rfl ⟨rfl, rfl⟩ ?_
                              refine tr_return (pc := 5) k_fm_changes_5 rfl ?_
                              show mT g me_fm_joint (d + 2) 0 0 208 [some (vr 10 0), some (vi x1), some (vi x2), some (vi x3), some (vi x4), some (vi x5)] [] (setI (setI (setI (setI (setI (setI (setI (setI h 11 14 ((hI h 10 0 3).toNatClampNeg) x2) 11 15 ((hI h 10 0 3).toNatClampNeg) (hI h 11 15 x2.toNatClampNeg)) 11 16 ((hI h 10 0 3).toNatClampNeg) x3) 11 17 ((hI h 10 0 3).toNatClampNeg) x4) 11 18 ((hI h 10 0 3).toNatClampNeg) x5) 11 20 ((hI h 10 0 3).toNatClampNeg) (-9 : Int32)) 10 0 3 ((hI h 10 0 3) + (1 : Int32))) 10 0 55 (0 : Int32)) _
                              refine tr_aload_n (pc := 208) 0 k_fm_joint_208 rfl rfl ?_
                              refine tr_getIx (pc := 209) k_fm_joint_209 fl_fm_155 rfl (Eq.trans (hI_nf (by decide)) (hI_eq)) ?_
                              refine tr_iconst (pc := 212) (v := 1) k_fm_joint_212 (by decide) ?_
                              refine tr_isub (pc := 213) k_fm_joint_213 ?_
                              refine tr_ireturn (pc := 214) k_fm_joint_214 rfl rfl ?_
                              exact hv
                            · replace hv := hv.2 q
                              refine tr_iload_n (pc := 140) 2 k_fm_joint_140 rfl rfl ?_
                              refine tr_goto (pc := 141) 150 k_fm_joint_141 (by decide) ?_
                              refine tr_iast (pc := 150) k_fm_joint_150 (mvin (hsk.2.1 11 15 _ rfl) hv.1) ?_
                              replace hv := hv.2
                              refine tr_aload_n (pc := 151) 0 k_fm_joint_151 rfl rfl ?_
                              refine tr_getP (pc := 152) k_fm_joint_152 fl_fm_44 rfl (Eq.trans (Eq.trans (hP_setI) (hP_setI)) (hsk.1 10 17 _ rfl)) ?_
                              refine tr_aload_n (pc := 155) 0 k_fm_joint_155 rfl rfl ?_
                              refine tr_getIx (pc := 156) k_fm_joint_156 fl_fm_155 rfl (Eq.trans (hI_nk (by decide)) (hI_nk (by decide))) ?_
                              refine tr_iload_n (pc := 159) 3 k_fm_joint_159 rfl rfl ?_
                              refine tr_iast (pc := 160) k_fm_joint_160 (mvin (hsk.2.1 11 16 _ rfl) hv.1) ?_
                              replace hv := hv.2
                              refine tr_aload_n (pc := 161) 0 k_fm_joint_161 rfl rfl ?_
                              refine tr_getP (pc := 162) k_fm_joint_162 fl_fm_47 rfl (Eq.trans (Eq.trans (hP_setI) (Eq.trans (hP_setI) (hP_setI))) (hsk.1 10 18 _ rfl)) ?_
                              refine tr_aload_n (pc := 165) 0 k_fm_joint_165 rfl rfl ?_
                              refine tr_getIx (pc := 166) k_fm_joint_166 fl_fm_155 rfl (Eq.trans (hI_nk (by decide)) (Eq.trans (hI_nk (by decide)) (hI_nk (by decide)))) ?_
                              refine tr_iload (pc := 169) k_fm_joint_169 rfl ?_
                              refine tr_iast (pc := 171) k_fm_joint_171 (mvin (hsk.2.1 11 17 _ rfl) hv.1) ?_
                              replace hv := hv.2
                              refine tr_aload_n (pc := 172) 0 k_fm_joint_172 rfl rfl ?_
                              refine tr_getP (pc := 173) k_fm_joint_173 fl_fm_50 rfl (Eq.trans (Eq.trans (hP_setI) (Eq.trans (hP_setI) (Eq.trans (hP_setI) (hP_setI)))) (hsk.1 10 19 _ rfl)) ?_
                              refine tr_aload_n (pc := 176) 0 k_fm_joint_176 rfl rfl ?_
                              refine tr_getIx (pc := 177) k_fm_joint_177 fl_fm_155 rfl (Eq.trans (hI_nk (by decide)) (Eq.trans (hI_nk (by decide)) (Eq.trans (hI_nk (by decide)) (hI_nk (by decide))))) ?_
                              refine tr_iload (pc := 180) k_fm_joint_180 rfl ?_
                              refine tr_iast (pc := 182) k_fm_joint_182 (mvin (hsk.2.1 11 18 _ rfl) hv.1) ?_
                              replace hv := hv.2
                              refine tr_aload_n (pc := 183) 0 k_fm_joint_183 rfl rfl ?_
                              refine tr_getP (pc := 184) k_fm_joint_184 fl_fm_56 rfl (Eq.trans (Eq.trans (hP_setI) (Eq.trans (hP_setI) (Eq.trans (hP_setI) (Eq.trans (hP_setI) (hP_setI))))) (hsk.1 10 21 _ rfl)) ?_
                              refine tr_aload_n (pc := 187) 0 k_fm_joint_187 rfl rfl ?_
                              refine tr_getIx (pc := 188) k_fm_joint_188 fl_fm_155 rfl (Eq.trans (hI_nk (by decide)) (Eq.trans (hI_nk (by decide)) (Eq.trans (hI_nk (by decide)) (Eq.trans (hI_nk (by decide)) (hI_nk (by decide)))))) ?_
                              refine tr_bipush (pc := 191) (v := -9) k_fm_joint_191 (by decide) ?_
                              refine tr_iast (pc := 193) k_fm_joint_193 (mvin (hsk.2.1 11 20 _ rfl) hv.1) ?_
                              replace hv := hv.2
                              refine tr_aload_n (pc := 194) 0 k_fm_joint_194 rfl rfl ?_
                              refine tr_dup (pc := 195) k_fm_joint_195 rfl ?_
                              refine tr_getIx (pc := 196) k_fm_joint_196 fl_fm_155 rfl (Eq.trans (hI_nk (by decide)) (Eq.trans (hI_nk (by decide)) (Eq.trans (hI_nk (by decide)) (Eq.trans (hI_nk (by decide)) (Eq.trans (hI_nk (by decide)) (hI_nk (by decide))))))) ?_
                              refine tr_iconst (pc := 199) (v := 1) k_fm_joint_199 (by decide) ?_
                              refine tr_iadd (pc := 200) k_fm_joint_200 ?_
                              refine tr_putI (pc := 201) k_fm_joint_201 fl_fm_155 (Or.inl rfl) rfl ⟨rfl, rfl⟩ ?_
                              refine tr_aload_n (pc := 204) 0 k_fm_joint_204 rfl rfl ?_
                              refine tr_callV (pc := 205) (d' := d + 1) (mc' := 0) (ms' := 0) [] k_fm_joint_205 ca_fm_changes ml_fm_152 ii_fm_changes ⟨by decide, rfl⟩ pa_fm_changes (by omega) (by omega) (by omega) rfl (Nat.le_of_ble_eq_true rfl) (Nat.le_of_ble_eq_true rfl) (Qk := fun v h9 => mT g me_fm_joint (d + 2) 0 0 208 [some (vr 10 0), some (vi x1), some (vi x2), some (vi x3), some (vi x4), some (vi x5)] (v.toList ++ []) h9 _) ?_ (fun _ _ z => z)
                              show mT g me_fm_changes (d + 1) 0 0 0 [some (vr 10 0)] [] (setI (setI (setI (setI (setI (setI (setI h 11 14 ((hI h 10 0 3).toNatClampNeg) x2) 11 15 ((hI h 10 0 3).toNatClampNeg) x2) 11 16 ((hI h 10 0 3).toNatClampNeg) x3) 11 17 ((hI h 10 0 3).toNatClampNeg) x4) 11 18 ((hI h 10 0 3).toNatClampNeg) x5) 11 20 ((hI h 10 0 3).toNatClampNeg) (-9 : Int32)) 10 0 3 ((hI h 10 0 3) + (1 : Int32))) _
                              refine tr_aload_n (pc := 0) 0 k_fm_changes_0 rfl rfl ?_
                              refine tr_iconst (pc := 1) (v := 0) k_fm_changes_1 (by decide) ?_
                              refine tr_putI (pc := 2) k_fm_changes_2 fl_fm_137 (Or.inl rfl) rfl ⟨rfl, rfl⟩ ?_
                              refine tr_return (pc := 5) k_fm_changes_5 rfl ?_
                              show mT g me_fm_joint (d + 2) 0 0 208 [some (vr 10 0), some (vi x1), some (vi x2), some (vi x3), some (vi x4), some (vi x5)] [] (setI (setI (setI (setI (setI (setI (setI (setI h 11 14 ((hI h 10 0 3).toNatClampNeg) x2) 11 15 ((hI h 10 0 3).toNatClampNeg) x2) 11 16 ((hI h 10 0 3).toNatClampNeg) x3) 11 17 ((hI h 10 0 3).toNatClampNeg) x4) 11 18 ((hI h 10 0 3).toNatClampNeg) x5) 11 20 ((hI h 10 0 3).toNatClampNeg) (-9 : Int32)) 10 0 3 ((hI h 10 0 3) + (1 : Int32))) 10 0 55 (0 : Int32)) _
                              refine tr_aload_n (pc := 208) 0 k_fm_joint_208 rfl rfl ?_
                              refine tr_getIx (pc := 209) k_fm_joint_209 fl_fm_155 rfl (Eq.trans (hI_nf (by decide)) (hI_eq)) ?_
                              refine tr_iconst (pc := 212) (v := 1) k_fm_joint_212 (by decide) ?_
                              refine tr_isub (pc := 213) k_fm_joint_213 ?_
                              refine tr_ireturn (pc := 214) k_fm_joint_214 rfl rfl ?_
                              exact hv
                          · replace hv := hv.2 q
                            refine tr_bipush (pc := 121) (v := -9) k_fm_joint_121 (by decide) ?_
                            refine tr_goto (pc := 123) 127 k_fm_joint_123 (by decide) ?_
                            refine tr_iast (pc := 127) k_fm_joint_127 (mvin (hsk.2.1 11 14 _ rfl) hv.1) ?_
                            replace hv := hv.2
                            refine tr_aload_n (pc := 128) 0 k_fm_joint_128 rfl rfl ?_
                            refine tr_getP (pc := 129) k_fm_joint_129 fl_fm_41 rfl (Eq.trans (hP_setI) (hsk.1 10 16 _ rfl)) ?_
                            refine tr_aload_n (pc := 132) 0 k_fm_joint_132 rfl rfl ?_
                            refine tr_getIx (pc := 133) k_fm_joint_133 fl_fm_155 rfl (hI_nk (by decide)) ?_
                            refine tr_iload_n (pc := 136) 1 k_fm_joint_136 rfl rfl ?_
                            refine tr_if_eq (pc := 137) 144 k_fm_joint_137 (by decide) (fun q => ?_) (fun q => ?_)
                            · replace hv := hv.1 q
                              refine tr_aload_n (pc := 144) 0 k_fm_joint_144 rfl rfl ?_
                              refine tr_getP (pc := 145) k_fm_joint_145 fl_fm_41 rfl (Eq.trans (hP_setI) (hsk.1 10 16 _ rfl)) ?_
                              refine tr_iload_n (pc := 148) 2 k_fm_joint_148 rfl rfl ?_
                              refine tr_ialdx (pc := 149) k_fm_joint_149 (mvin (hsk.2.1 11 15 _ rfl) hv.1) (hI_nn (by decide)) ?_
                              replace hv := hv.2
                              refine tr_iast (pc := 150) k_fm_joint_150 (mvin (hsk.2.1 11 15 _ rfl) hv.1) ?_
                              replace hv := hv.2
                              refine tr_aload_n (pc := 151) 0 k_fm_joint_151 rfl rfl ?_
                              refine tr_getP (pc := 152) k_fm_joint_152 fl_fm_44 rfl (Eq.trans (Eq.trans (hP_setI) (hP_setI)) (hsk.1 10 17 _ rfl)) ?_
                              refine tr_aload_n (pc := 155) 0 k_fm_joint_155 rfl rfl ?_
                              refine tr_getIx (pc := 156) k_fm_joint_156 fl_fm_155 rfl (Eq.trans (hI_nk (by decide)) (hI_nk (by decide))) ?_
                              refine tr_iload_n (pc := 159) 3 k_fm_joint_159 rfl rfl ?_
                              refine tr_iast (pc := 160) k_fm_joint_160 (mvin (hsk.2.1 11 16 _ rfl) hv.1) ?_
                              replace hv := hv.2
                              refine tr_aload_n (pc := 161) 0 k_fm_joint_161 rfl rfl ?_
                              refine tr_getP (pc := 162) k_fm_joint_162 fl_fm_47 rfl (Eq.trans (Eq.trans (hP_setI) (Eq.trans (hP_setI) (hP_setI))) (hsk.1 10 18 _ rfl)) ?_
                              refine tr_aload_n (pc := 165) 0 k_fm_joint_165 rfl rfl ?_
                              refine tr_getIx (pc := 166) k_fm_joint_166 fl_fm_155 rfl (Eq.trans (hI_nk (by decide)) (Eq.trans (hI_nk (by decide)) (hI_nk (by decide)))) ?_
                              refine tr_iload (pc := 169) k_fm_joint_169 rfl ?_
                              refine tr_iast (pc := 171) k_fm_joint_171 (mvin (hsk.2.1 11 17 _ rfl) hv.1) ?_
                              replace hv := hv.2
                              refine tr_aload_n (pc := 172) 0 k_fm_joint_172 rfl rfl ?_
                              refine tr_getP (pc := 173) k_fm_joint_173 fl_fm_50 rfl (Eq.trans (Eq.trans (hP_setI) (Eq.trans (hP_setI) (Eq.trans (hP_setI) (hP_setI)))) (hsk.1 10 19 _ rfl)) ?_
                              refine tr_aload_n (pc := 176) 0 k_fm_joint_176 rfl rfl ?_
                              refine tr_getIx (pc := 177) k_fm_joint_177 fl_fm_155 rfl (Eq.trans (hI_nk (by decide)) (Eq.trans (hI_nk (by decide)) (Eq.trans (hI_nk (by decide)) (hI_nk (by decide))))) ?_
                              refine tr_iload (pc := 180) k_fm_joint_180 rfl ?_
                              refine tr_iast (pc := 182) k_fm_joint_182 (mvin (hsk.2.1 11 18 _ rfl) hv.1) ?_
                              replace hv := hv.2
                              refine tr_aload_n (pc := 183) 0 k_fm_joint_183 rfl rfl ?_
                              refine tr_getP (pc := 184) k_fm_joint_184 fl_fm_56 rfl (Eq.trans (Eq.trans (hP_setI) (Eq.trans (hP_setI) (Eq.trans (hP_setI) (Eq.trans (hP_setI) (hP_setI))))) (hsk.1 10 21 _ rfl)) ?_
                              refine tr_aload_n (pc := 187) 0 k_fm_joint_187 rfl rfl ?_
                              refine tr_getIx (pc := 188) k_fm_joint_188 fl_fm_155 rfl (Eq.trans (hI_nk (by decide)) (Eq.trans (hI_nk (by decide)) (Eq.trans (hI_nk (by decide)) (Eq.trans (hI_nk (by decide)) (hI_nk (by decide)))))) ?_
                              refine tr_bipush (pc := 191) (v := -9) k_fm_joint_191 (by decide) ?_
                              refine tr_iast (pc := 193) k_fm_joint_193 (mvin (hsk.2.1 11 20 _ rfl) hv.1) ?_
                              replace hv := hv.2
                              refine tr_aload_n (pc := 194) 0 k_fm_joint_194 rfl rfl ?_
                              refine tr_dup (pc := 195) k_fm_joint_195 rfl ?_
                              refine tr_getIx (pc := 196) k_fm_joint_196 fl_fm_155 rfl (Eq.trans (hI_nk (by decide)) (Eq.trans (hI_nk (by decide)) (Eq.trans (hI_nk (by decide)) (Eq.trans (hI_nk (by decide)) (Eq.trans (hI_nk (by decide)) (hI_nk (by decide))))))) ?_
                              refine tr_iconst (pc := 199) (v := 1) k_fm_joint_199 (by decide) ?_
                              refine tr_iadd (pc := 200) k_fm_joint_200 ?_
                              refine tr_putI (pc := 201) k_fm_joint_201 fl_fm_155 (Or.inl rfl) rfl ⟨rfl, rfl⟩ ?_
                              refine tr_aload_n (pc := 204) 0 k_fm_joint_204 rfl rfl ?_
                              refine tr_callV (pc := 205) (d' := d + 1) (mc' := 0) (ms' := 0) [] k_fm_joint_205 ca_fm_changes ml_fm_152 ii_fm_changes ⟨by decide, rfl⟩ pa_fm_changes (by omega) (by omega) (by omega) rfl (Nat.le_of_ble_eq_true rfl) (Nat.le_of_ble_eq_true rfl) (Qk := fun v h9 => mT g me_fm_joint (d + 2) 0 0 208 [some (vr 10 0), some (vi x1), some (vi x2), some (vi x3), some (vi x4), some (vi x5)] (v.toList ++ []) h9 _) ?_ (fun _ _ z => z)
                              show mT g me_fm_changes (d + 1) 0 0 0 [some (vr 10 0)] [] (setI (setI (setI (setI (setI (setI (setI h 11 14 ((hI h 10 0 3).toNatClampNeg) (-9 : Int32)) 11 15 ((hI h 10 0 3).toNatClampNeg) (hI h 11 15 x2.toNatClampNeg)) 11 16 ((hI h 10 0 3).toNatClampNeg) x3) 11 17 ((hI h 10 0 3).toNatClampNeg) x4) 11 18 ((hI h 10 0 3).toNatClampNeg) x5) 11 20 ((hI h 10 0 3).toNatClampNeg) (-9 : Int32)) 10 0 3 ((hI h 10 0 3) + (1 : Int32))) _
                              refine tr_aload_n (pc := 0) 0 k_fm_changes_0 rfl rfl ?_
                              refine tr_iconst (pc := 1) (v := 0) k_fm_changes_1 (by decide) ?_
                              refine tr_putI (pc := 2) k_fm_changes_2 fl_fm_137 (Or.inl rfl) rfl ⟨rfl, rfl⟩ ?_
                              refine tr_return (pc := 5) k_fm_changes_5 rfl ?_
                              show mT g me_fm_joint (d + 2) 0 0 208 [some (vr 10 0), some (vi x1), some (vi x2), some (vi x3), some (vi x4), some (vi x5)] [] (setI (setI (setI (setI (setI (setI (setI (setI h 11 14 ((hI h 10 0 3).toNatClampNeg) (-9 : Int32)) 11 15 ((hI h 10 0 3).toNatClampNeg) (hI h 11 15 x2.toNatClampNeg)) 11 16 ((hI h 10 0 3).toNatClampNeg) x3) 11 17 ((hI h 10 0 3).toNatClampNeg) x4) 11 18 ((hI h 10 0 3).toNatClampNeg) x5) 11 20 ((hI h 10 0 3).toNatClampNeg) (-9 : Int32)) 10 0 3 ((hI h 10 0 3) + (1 : Int32))) 10 0 55 (0 : Int32)) _
                              refine tr_aload_n (pc := 208) 0 k_fm_joint_208 rfl rfl ?_
                              refine tr_getIx (pc := 209) k_fm_joint_209 fl_fm_155 rfl (Eq.trans (hI_nf (by decide)) (hI_eq)) ?_
                              refine tr_iconst (pc := 212) (v := 1) k_fm_joint_212 (by decide) ?_
                              refine tr_isub (pc := 213) k_fm_joint_213 ?_
                              refine tr_ireturn (pc := 214) k_fm_joint_214 rfl rfl ?_
                              exact hv
                            · replace hv := hv.2 q
                              refine tr_iload_n (pc := 140) 2 k_fm_joint_140 rfl rfl ?_
                              refine tr_goto (pc := 141) 150 k_fm_joint_141 (by decide) ?_
                              refine tr_iast (pc := 150) k_fm_joint_150 (mvin (hsk.2.1 11 15 _ rfl) hv.1) ?_
                              replace hv := hv.2
                              refine tr_aload_n (pc := 151) 0 k_fm_joint_151 rfl rfl ?_
                              refine tr_getP (pc := 152) k_fm_joint_152 fl_fm_44 rfl (Eq.trans (Eq.trans (hP_setI) (hP_setI)) (hsk.1 10 17 _ rfl)) ?_
                              refine tr_aload_n (pc := 155) 0 k_fm_joint_155 rfl rfl ?_
                              refine tr_getIx (pc := 156) k_fm_joint_156 fl_fm_155 rfl (Eq.trans (hI_nk (by decide)) (hI_nk (by decide))) ?_
                              refine tr_iload_n (pc := 159) 3 k_fm_joint_159 rfl rfl ?_
                              refine tr_iast (pc := 160) k_fm_joint_160 (mvin (hsk.2.1 11 16 _ rfl) hv.1) ?_
                              replace hv := hv.2
                              refine tr_aload_n (pc := 161) 0 k_fm_joint_161 rfl rfl ?_
                              refine tr_getP (pc := 162) k_fm_joint_162 fl_fm_47 rfl (Eq.trans (Eq.trans (hP_setI) (Eq.trans (hP_setI) (hP_setI))) (hsk.1 10 18 _ rfl)) ?_
                              refine tr_aload_n (pc := 165) 0 k_fm_joint_165 rfl rfl ?_
                              refine tr_getIx (pc := 166) k_fm_joint_166 fl_fm_155 rfl (Eq.trans (hI_nk (by decide)) (Eq.trans (hI_nk (by decide)) (hI_nk (by decide)))) ?_
                              refine tr_iload (pc := 169) k_fm_joint_169 rfl ?_
                              refine tr_iast (pc := 171) k_fm_joint_171 (mvin (hsk.2.1 11 17 _ rfl) hv.1) ?_
                              replace hv := hv.2
                              refine tr_aload_n (pc := 172) 0 k_fm_joint_172 rfl rfl ?_
                              refine tr_getP (pc := 173) k_fm_joint_173 fl_fm_50 rfl (Eq.trans (Eq.trans (hP_setI) (Eq.trans (hP_setI) (Eq.trans (hP_setI) (hP_setI)))) (hsk.1 10 19 _ rfl)) ?_
                              refine tr_aload_n (pc := 176) 0 k_fm_joint_176 rfl rfl ?_
                              refine tr_getIx (pc := 177) k_fm_joint_177 fl_fm_155 rfl (Eq.trans (hI_nk (by decide)) (Eq.trans (hI_nk (by decide)) (Eq.trans (hI_nk (by decide)) (hI_nk (by decide))))) ?_
                              refine tr_iload (pc := 180) k_fm_joint_180 rfl ?_
                              refine tr_iast (pc := 182) k_fm_joint_182 (mvin (hsk.2.1 11 18 _ rfl) hv.1) ?_
                              replace hv := hv.2
                              refine tr_aload_n (pc := 183) 0 k_fm_joint_183 rfl rfl ?_
                              refine tr_getP (pc := 184) k_fm_joint_184 fl_fm_56 rfl (Eq.trans (Eq.trans (hP_setI) (Eq.trans (hP_setI) (Eq.trans (hP_setI) (Eq.trans (hP_setI) (hP_setI))))) (hsk.1 10 21 _ rfl)) ?_
                              refine tr_aload_n (pc := 187) 0 k_fm_joint_187 rfl rfl ?_
                              refine tr_getIx (pc := 188) k_fm_joint_188 fl_fm_155 rfl (Eq.trans (hI_nk (by decide)) (Eq.trans (hI_nk (by decide)) (Eq.trans (hI_nk (by decide)) (Eq.trans (hI_nk (by decide)) (hI_nk (by decide)))))) ?_
                              refine tr_bipush (pc := 191) (v := -9) k_fm_joint_191 (by decide) ?_
                              refine tr_iast (pc := 193) k_fm_joint_193 (mvin (hsk.2.1 11 20 _ rfl) hv.1) ?_
                              replace hv := hv.2
                              refine tr_aload_n (pc := 194) 0 k_fm_joint_194 rfl rfl ?_
                              refine tr_dup (pc := 195) k_fm_joint_195 rfl ?_
                              refine tr_getIx (pc := 196) k_fm_joint_196 fl_fm_155 rfl (Eq.trans (hI_nk (by decide)) (Eq.trans (hI_nk (by decide)) (Eq.trans (hI_nk (by decide)) (Eq.trans (hI_nk (by decide)) (Eq.trans (hI_nk (by decide)) (hI_nk (by decide))))))) ?_
                              refine tr_iconst (pc := 199) (v := 1) k_fm_joint_199 (by decide) ?_
                              refine tr_iadd (pc := 200) k_fm_joint_200 ?_
                              refine tr_putI (pc := 201) k_fm_joint_201 fl_fm_155 (Or.inl rfl) rfl ⟨rfl, rfl⟩ ?_
                              refine tr_aload_n (pc := 204) 0 k_fm_joint_204 rfl rfl ?_
                              refine tr_callV (pc := 205) (d' := d + 1) (mc' := 0) (ms' := 0) [] k_fm_joint_205 ca_fm_changes ml_fm_152 ii_fm_changes ⟨by decide, rfl⟩ pa_fm_changes (by omega) (by omega) (by omega) rfl (Nat.le_of_ble_eq_true rfl) (Nat.le_of_ble_eq_true rfl) (Qk := fun v h9 => mT g me_fm_joint (d + 2) 0 0 208 [some (vr 10 0), some (vi x1), some (vi x2), some (vi x3), some (vi x4), some (vi x5)] (v.toList ++ []) h9 _) ?_ (fun _ _ z => z)
                              show mT g me_fm_changes (d + 1) 0 0 0 [some (vr 10 0)] [] (setI (setI (setI (setI (setI (setI (setI h 11 14 ((hI h 10 0 3).toNatClampNeg) (-9 : Int32)) 11 15 ((hI h 10 0 3).toNatClampNeg) x2) 11 16 ((hI h 10 0 3).toNatClampNeg) x3) 11 17 ((hI h 10 0 3).toNatClampNeg) x4) 11 18 ((hI h 10 0 3).toNatClampNeg) x5) 11 20 ((hI h 10 0 3).toNatClampNeg) (-9 : Int32)) 10 0 3 ((hI h 10 0 3) + (1 : Int32))) _
                              refine tr_aload_n (pc := 0) 0 k_fm_changes_0 rfl rfl ?_
                              refine tr_iconst (pc := 1) (v := 0) k_fm_changes_1 (by decide) ?_
                              refine tr_putI (pc := 2) k_fm_changes_2 fl_fm_137 (Or.inl rfl) rfl ⟨rfl, rfl⟩ ?_
                              refine tr_return (pc := 5) k_fm_changes_5 rfl ?_
                              show mT g me_fm_joint (d + 2) 0 0 208 [some (vr 10 0), some (vi x1), some (vi x2), some (vi x3), some (vi x4), some (vi x5)] [] (setI (setI (setI (setI (setI (setI (setI (setI h 11 14 ((hI h 10 0 3).toNatClampNeg) (-9 : Int32)) 11 15 ((hI h 10 0 3).toNatClampNeg) x2) 11 16 ((hI h 10 0 3).toNatClampNeg) x3) 11 17 ((hI h 10 0 3).toNatClampNeg) x4) 11 18 ((hI h 10 0 3).toNatClampNeg) x5) 11 20 ((hI h 10 0 3).toNatClampNeg) (-9 : Int32)) 10 0 3 ((hI h 10 0 3) + (1 : Int32))) 10 0 55 (0 : Int32)) _
                              refine tr_aload_n (pc := 208) 0 k_fm_joint_208 rfl rfl ?_
                              refine tr_getIx (pc := 209) k_fm_joint_209 fl_fm_155 rfl (Eq.trans (hI_nf (by decide)) (hI_eq)) ?_
                              refine tr_iconst (pc := 212) (v := 1) k_fm_joint_212 (by decide) ?_
                              refine tr_isub (pc := 213) k_fm_joint_213 ?_
                              refine tr_ireturn (pc := 214) k_fm_joint_214 rfl rfl ?_
                              exact hv
                        · replace hv := hv.2 q
                          refine tr_aload_n (pc := 102) 0 k_fm_joint_102 rfl rfl ?_
                          refine tr_bipush (pc := 103) (v := -3) k_fm_joint_103 (by decide) ?_
                          have hT := hv
                          clear hv
                          refine tr_callV (pc := 105) (d' := d + 1) (mc' := 0) (ms' := 0) [vi (-3 : Int32)] k_fm_joint_105 ca_fm_refuse ml_fm_133 ii_fm_refuse ⟨by decide, rfl⟩ pa_fm_refuse (by omega) (by omega) (by omega) rfl (Nat.le_of_ble_eq_true rfl) (Nat.le_of_ble_eq_true rfl) hT (fun v h9 hv => ?_)
                          clear hT
                          obtain ⟨y16, rfl, hv⟩ := hv
                          obtain ⟨h15, eh⟩ : ∃ z, z = h9 := ⟨_, rfl⟩
                          subst eh
                          obtain ⟨hskh15, hv⟩ := hv
                          show mT g me_fm_joint (d + 2) 0 0 108 [some (vr 10 0), some (vi x1), some (vi x2), some (vi x3), some (vi x4), some (vi x5)] [vi y16] h15 _
                          refine tr_ireturn (pc := 108) k_fm_joint_108 rfl rfl ?_
                          exact hv
                    · replace hv := hv.2 q
                      refine tr_aload_n (pc := 82) 0 k_fm_joint_82 rfl rfl ?_
                      refine tr_bipush (pc := 83) (v := -6) k_fm_joint_83 (by decide) ?_
                      have hT := hv
                      clear hv
                      refine tr_callV (pc := 85) (d' := d + 1) (mc' := 0) (ms' := 0) [vi (-6 : Int32)] k_fm_joint_85 ca_fm_refuse ml_fm_133 ii_fm_refuse ⟨by decide, rfl⟩ pa_fm_refuse (by omega) (by omega) (by omega) rfl (Nat.le_of_ble_eq_true rfl) (Nat.le_of_ble_eq_true rfl) hT (fun v h9 hv => ?_)
                      clear hT
                      obtain ⟨y18, rfl, hv⟩ := hv
                      obtain ⟨h17, eh⟩ : ∃ z, z = h9 := ⟨_, rfl⟩
                      subst eh
                      obtain ⟨hskh17, hv⟩ := hv
                      show mT g me_fm_joint (d + 2) 0 0 88 [some (vr 10 0), some (vi x1), some (vi x2), some (vi x3), some (vi x4), some (vi x5)] [vi y18] h17 _
                      refine tr_ireturn (pc := 88) k_fm_joint_88 rfl rfl ?_
                      exact hv
            · replace hv := hv.2 q
              refine tr_aload_n (pc := 44) 0 k_fm_joint_44 rfl rfl ?_
              refine tr_bipush (pc := 45) (v := -4) k_fm_joint_45 (by decide) ?_
              have hT := hv
              clear hv
              refine tr_callV (pc := 47) (d' := d + 1) (mc' := 0) (ms' := 0) [vi (-4 : Int32)] k_fm_joint_47 ca_fm_refuse ml_fm_133 ii_fm_refuse ⟨by decide, rfl⟩ pa_fm_refuse (by omega) (by omega) (by omega) rfl (Nat.le_of_ble_eq_true rfl) (Nat.le_of_ble_eq_true rfl) hT (fun v h9 hv => ?_)
              clear hT
              obtain ⟨y20, rfl, hv⟩ := hv
              obtain ⟨h19, eh⟩ : ∃ z, z = h9 := ⟨_, rfl⟩
              subst eh
              obtain ⟨hskh19, hv⟩ := hv
              show mT g me_fm_joint (d + 2) 0 0 50 [some (vr 10 0), some (vi x1), some (vi x2), some (vi x3), some (vi x4), some (vi x5)] [vi y20] h19 _
              refine tr_ireturn (pc := 50) k_fm_joint_50 rfl rfl ?_
              exact hv
  · replace hv := hv.2 q
    refine tr_aload_n (pc := 5) 0 k_fm_joint_5 rfl rfl ?_
    refine tr_getIx (pc := 6) k_fm_joint_6 fl_fm_141 rfl rfl ?_
    refine tr_goto (pc := 9) 16 k_fm_joint_9 (by decide) ?_
    refine tr_callS (pc := 16) (d' := d + 1) (mc' := 0) (ms' := 0) [vi x2, vi (hI h 10 0 2)] k_fm_joint_16 ca_fm_isIn ml_fm_144 is_fm_isIn pa_fm_isIn (by omega) (by omega) (by omega) rfl (Nat.le_of_ble_eq_true rfl) (Nat.le_of_ble_eq_true rfl) (Qk := fun v h9 => mT g me_fm_joint (d + 2) 0 0 19 [some (vr 10 0), some (vi x1), some (vi x2), some (vi x3), some (vi x4), some (vi x5)] (v.toList ++ []) h9 _) ?_ (fun _ _ z => z)
    show mT g me_fm_isIn (d + 1) 0 0 0 [some (vi x2), some (vi (hI h 10 0 2))] [] h _
    refine tr_iload_n (pc := 0) 0 k_fm_isIn_0 rfl rfl ?_
    refine tr_if_lt (pc := 1) 13 k_fm_isIn_1 (by decide) (fun q => ?_) (fun q => ?_)
    · replace hv := hv.1 q
      refine tr_iconst (pc := 13) (v := 0) k_fm_isIn_13 (by decide) ?_
      refine tr_ireturn (pc := 14) k_fm_isIn_14 rfl rfl ?_
      show mT g me_fm_joint (d + 2) 0 0 19 [some (vr 10 0), some (vi x1), some (vi x2), some (vi x3), some (vi x4), some (vi x5)] [vi (0 : Int32)] h _
      refine tr_if_ne (pc := 19) 28 k_fm_joint_19 (by decide) (fun q => absurd q (by decide)) (fun _ => ?_)
      refine tr_aload_n (pc := 22) 0 k_fm_joint_22 rfl rfl ?_
      refine tr_iconst (pc := 23) (v := -1) k_fm_joint_23 (by decide) ?_
      have hT := hv
      clear hv
      refine tr_callV (pc := 24) (d' := d + 1) (mc' := 0) (ms' := 0) [vi (-1 : Int32)] k_fm_joint_24 ca_fm_refuse ml_fm_133 ii_fm_refuse ⟨by decide, rfl⟩ pa_fm_refuse (by omega) (by omega) (by omega) rfl (Nat.le_of_ble_eq_true rfl) (Nat.le_of_ble_eq_true rfl) hT (fun v h9 hv => ?_)
      clear hT
      obtain ⟨y22, rfl, hv⟩ := hv
      obtain ⟨h21, eh⟩ : ∃ z, z = h9 := ⟨_, rfl⟩
      subst eh
      obtain ⟨hskh21, hv⟩ := hv
      show mT g me_fm_joint (d + 2) 0 0 27 [some (vr 10 0), some (vi x1), some (vi x2), some (vi x3), some (vi x4), some (vi x5)] [vi y22] h21 _
      refine tr_ireturn (pc := 27) k_fm_joint_27 rfl rfl ?_
      exact hv
    · replace hv := hv.2 q
      refine tr_iload_n (pc := 4) 0 k_fm_isIn_4 rfl rfl ?_
      refine tr_iload_n (pc := 5) 1 k_fm_isIn_5 rfl rfl ?_
      refine tr_icmp_ge (pc := 6) 13 k_fm_isIn_6 (by decide) (fun q => ?_) (fun q => ?_)
      · replace hv := hv.1 q
        refine tr_iconst (pc := 13) (v := 0) k_fm_isIn_13 (by decide) ?_
        refine tr_ireturn (pc := 14) k_fm_isIn_14 rfl rfl ?_
        show mT g me_fm_joint (d + 2) 0 0 19 [some (vr 10 0), some (vi x1), some (vi x2), some (vi x3), some (vi x4), some (vi x5)] [vi (0 : Int32)] h _
        refine tr_if_ne (pc := 19) 28 k_fm_joint_19 (by decide) (fun q => absurd q (by decide)) (fun _ => ?_)
        refine tr_aload_n (pc := 22) 0 k_fm_joint_22 rfl rfl ?_
        refine tr_iconst (pc := 23) (v := -1) k_fm_joint_23 (by decide) ?_
        have hT := hv
        clear hv
        refine tr_callV (pc := 24) (d' := d + 1) (mc' := 0) (ms' := 0) [vi (-1 : Int32)] k_fm_joint_24 ca_fm_refuse ml_fm_133 ii_fm_refuse ⟨by decide, rfl⟩ pa_fm_refuse (by omega) (by omega) (by omega) rfl (Nat.le_of_ble_eq_true rfl) (Nat.le_of_ble_eq_true rfl) hT (fun v h9 hv => ?_)
        clear hT
        obtain ⟨y24, rfl, hv⟩ := hv
        obtain ⟨h23, eh⟩ : ∃ z, z = h9 := ⟨_, rfl⟩
        subst eh
        obtain ⟨hskh23, hv⟩ := hv
        show mT g me_fm_joint (d + 2) 0 0 27 [some (vr 10 0), some (vi x1), some (vi x2), some (vi x3), some (vi x4), some (vi x5)] [vi y24] h23 _
        refine tr_ireturn (pc := 27) k_fm_joint_27 rfl rfl ?_
        exact hv
      · replace hv := hv.2 q
        refine tr_iconst (pc := 9) (v := 1) k_fm_isIn_9 (by decide) ?_
        refine tr_goto (pc := 10) 14 k_fm_isIn_10 (by decide) ?_
        refine tr_ireturn (pc := 14) k_fm_isIn_14 rfl rfl ?_
        show mT g me_fm_joint (d + 2) 0 0 19 [some (vr 10 0), some (vi x1), some (vi x2), some (vi x3), some (vi x4), some (vi x5)] [vi (1 : Int32)] h _
        refine tr_if_ne (pc := 19) 28 k_fm_joint_19 (by decide) (fun _ => ?_) (fun q => absurd q (by decide))
        refine tr_iload_n (pc := 28) 3 k_fm_joint_28 rfl rfl ?_
        refine tr_if_lt (pc := 29) 44 k_fm_joint_29 (by decide) (fun q => ?_) (fun q => ?_)
        · replace hv := hv.1 q
          refine tr_aload_n (pc := 44) 0 k_fm_joint_44 rfl rfl ?_
          refine tr_bipush (pc := 45) (v := -4) k_fm_joint_45 (by decide) ?_
          have hT := hv
          clear hv
          refine tr_callV (pc := 47) (d' := d + 1) (mc' := 0) (ms' := 0) [vi (-4 : Int32)] k_fm_joint_47 ca_fm_refuse ml_fm_133 ii_fm_refuse ⟨by decide, rfl⟩ pa_fm_refuse (by omega) (by omega) (by omega) rfl (Nat.le_of_ble_eq_true rfl) (Nat.le_of_ble_eq_true rfl) hT (fun v h9 hv => ?_)
          clear hT
          obtain ⟨y26, rfl, hv⟩ := hv
          obtain ⟨h25, eh⟩ : ∃ z, z = h9 := ⟨_, rfl⟩
          subst eh
          obtain ⟨hskh25, hv⟩ := hv
          show mT g me_fm_joint (d + 2) 0 0 50 [some (vr 10 0), some (vi x1), some (vi x2), some (vi x3), some (vi x4), some (vi x5)] [vi y26] h25 _
          refine tr_ireturn (pc := 50) k_fm_joint_50 rfl rfl ?_
          exact hv
        · replace hv := hv.2 q
          refine tr_iload (pc := 32) k_fm_joint_32 rfl ?_
          refine tr_iconst (pc := 34) (v := 1) k_fm_joint_34 (by decide) ?_
          refine tr_icmp_lt (pc := 35) 44 k_fm_joint_35 (by decide) (fun q => ?_) (fun q => ?_)
          · replace hv := hv.1 q
            refine tr_aload_n (pc := 44) 0 k_fm_joint_44 rfl rfl ?_
            refine tr_bipush (pc := 45) (v := -4) k_fm_joint_45 (by decide) ?_
            have hT := hv
            clear hv
            refine tr_callV (pc := 47) (d' := d + 1) (mc' := 0) (ms' := 0) [vi (-4 : Int32)] k_fm_joint_47 ca_fm_refuse ml_fm_133 ii_fm_refuse ⟨by decide, rfl⟩ pa_fm_refuse (by omega) (by omega) (by omega) rfl (Nat.le_of_ble_eq_true rfl) (Nat.le_of_ble_eq_true rfl) hT (fun v h9 hv => ?_)
            clear hT
            obtain ⟨y28, rfl, hv⟩ := hv
            obtain ⟨h27, eh⟩ : ∃ z, z = h9 := ⟨_, rfl⟩
            subst eh
            obtain ⟨hskh27, hv⟩ := hv
            show mT g me_fm_joint (d + 2) 0 0 50 [some (vr 10 0), some (vi x1), some (vi x2), some (vi x3), some (vi x4), some (vi x5)] [vi y28] h27 _
            refine tr_ireturn (pc := 50) k_fm_joint_50 rfl rfl ?_
            exact hv
          · replace hv := hv.2 q
            refine tr_iload (pc := 38) k_fm_joint_38 rfl ?_
            refine tr_iconst (pc := 40) (v := 1) k_fm_joint_40 (by decide) ?_
            refine tr_icmp_ge (pc := 41) 51 k_fm_joint_41 (by decide) (fun q => ?_) (fun q => ?_)
            · replace hv := hv.1 q
              refine tr_iload_n (pc := 51) 3 k_fm_joint_51 rfl rfl ?_
              refine tr_sipush (pc := 52) (v := 500) k_fm_joint_52 (by decide) ?_
              refine tr_icmp_gt (pc := 55) 82 k_fm_joint_55 (by decide) (fun q => ?_) (fun q => ?_)
              · replace hv := hv.1 q
                refine tr_aload_n (pc := 82) 0 k_fm_joint_82 rfl rfl ?_
                refine tr_bipush (pc := 83) (v := -6) k_fm_joint_83 (by decide) ?_
                have hT := hv
                clear hv
                refine tr_callV (pc := 85) (d' := d + 1) (mc' := 0) (ms' := 0) [vi (-6 : Int32)] k_fm_joint_85 ca_fm_refuse ml_fm_133 ii_fm_refuse ⟨by decide, rfl⟩ pa_fm_refuse (by omega) (by omega) (by omega) rfl (Nat.le_of_ble_eq_true rfl) (Nat.le_of_ble_eq_true rfl) hT (fun v h9 hv => ?_)
                clear hT
                obtain ⟨y30, rfl, hv⟩ := hv
                obtain ⟨h29, eh⟩ : ∃ z, z = h9 := ⟨_, rfl⟩
                subst eh
                obtain ⟨hskh29, hv⟩ := hv
                show mT g me_fm_joint (d + 2) 0 0 88 [some (vr 10 0), some (vi x1), some (vi x2), some (vi x3), some (vi x4), some (vi x5)] [vi y30] h29 _
                refine tr_ireturn (pc := 88) k_fm_joint_88 rfl rfl ?_
                exact hv
              · replace hv := hv.2 q
                refine tr_iload (pc := 58) k_fm_joint_58 rfl ?_
                refine tr_bipush (pc := 60) (v := 9) k_fm_joint_60 (by decide) ?_
                refine tr_icmp_gt (pc := 62) 82 k_fm_joint_62 (by decide) (fun q => ?_) (fun q => ?_)
                · replace hv := hv.1 q
                  refine tr_aload_n (pc := 82) 0 k_fm_joint_82 rfl rfl ?_
                  refine tr_bipush (pc := 83) (v := -6) k_fm_joint_83 (by decide) ?_
                  have hT := hv
                  clear hv
                  refine tr_callV (pc := 85) (d' := d + 1) (mc' := 0) (ms' := 0) [vi (-6 : Int32)] k_fm_joint_85 ca_fm_refuse ml_fm_133 ii_fm_refuse ⟨by decide, rfl⟩ pa_fm_refuse (by omega) (by omega) (by omega) rfl (Nat.le_of_ble_eq_true rfl) (Nat.le_of_ble_eq_true rfl) hT (fun v h9 hv => ?_)
                  clear hT
                  obtain ⟨y32, rfl, hv⟩ := hv
                  obtain ⟨h31, eh⟩ : ∃ z, z = h9 := ⟨_, rfl⟩
                  subst eh
                  obtain ⟨hskh31, hv⟩ := hv
                  show mT g me_fm_joint (d + 2) 0 0 88 [some (vr 10 0), some (vi x1), some (vi x2), some (vi x3), some (vi x4), some (vi x5)] [vi y32] h31 _
                  refine tr_ireturn (pc := 88) k_fm_joint_88 rfl rfl ?_
                  exact hv
                · replace hv := hv.2 q
                  refine tr_iload (pc := 65) k_fm_joint_65 rfl ?_
                  refine tr_sipush (pc := 67) (v := 200) k_fm_joint_67 (by decide) ?_
                  refine tr_icmp_gt (pc := 70) 82 k_fm_joint_70 (by decide) (fun q => ?_) (fun q => ?_)
                  · replace hv := hv.1 q
                    refine tr_aload_n (pc := 82) 0 k_fm_joint_82 rfl rfl ?_
                    refine tr_bipush (pc := 83) (v := -6) k_fm_joint_83 (by decide) ?_
                    have hT := hv
                    clear hv
                    refine tr_callV (pc := 85) (d' := d + 1) (mc' := 0) (ms' := 0) [vi (-6 : Int32)] k_fm_joint_85 ca_fm_refuse ml_fm_133 ii_fm_refuse ⟨by decide, rfl⟩ pa_fm_refuse (by omega) (by omega) (by omega) rfl (Nat.le_of_ble_eq_true rfl) (Nat.le_of_ble_eq_true rfl) hT (fun v h9 hv => ?_)
                    clear hT
                    obtain ⟨y34, rfl, hv⟩ := hv
                    obtain ⟨h33, eh⟩ : ∃ z, z = h9 := ⟨_, rfl⟩
                    subst eh
                    obtain ⟨hskh33, hv⟩ := hv
                    show mT g me_fm_joint (d + 2) 0 0 88 [some (vr 10 0), some (vi x1), some (vi x2), some (vi x3), some (vi x4), some (vi x5)] [vi y34] h33 _
                    refine tr_ireturn (pc := 88) k_fm_joint_88 rfl rfl ?_
                    exact hv
                  · replace hv := hv.2 q
                    refine tr_aload_n (pc := 73) 0 k_fm_joint_73 rfl rfl ?_
                    refine tr_getIx (pc := 74) k_fm_joint_74 fl_fm_155 rfl rfl ?_
                    refine tr_bipush (pc := 77) (v := 30) k_fm_joint_77 (by decide) ?_
                    refine tr_icmp_ne (pc := 79) 89 k_fm_joint_79 (by decide) (fun q => ?_) (fun q => ?_)
                    · replace hv := hv.1 q
                      refine tr_iload_n (pc := 89) 1 k_fm_joint_89 rfl rfl ?_
                      refine tr_if_ne (pc := 90) 109 k_fm_joint_90 (by decide) (fun q => ?_) (fun q => ?_)
                      · replace hv := hv.1 q
                        refine tr_aload_n (pc := 109) 0 k_fm_joint_109 rfl rfl ?_
                        refine tr_getP (pc := 110) k_fm_joint_110 fl_fm_38 rfl (Eq.trans rfl (hsk.1 10 15 _ rfl)) ?_
                        refine tr_aload_n (pc := 113) 0 k_fm_joint_113 rfl rfl ?_
                        refine tr_getIx (pc := 114) k_fm_joint_114 fl_fm_155 rfl rfl ?_
                        refine tr_iload_n (pc := 117) 1 k_fm_joint_117 rfl rfl ?_
                        refine tr_if_eq (pc := 118) 126 k_fm_joint_118 (by decide) (fun q => ?_) (fun q => ?_)
                        · replace hv := hv.1 q
                          refine tr_iload_n (pc := 126) 2 k_fm_joint_126 rfl rfl ?_
                          refine tr_iast (pc := 127) k_fm_joint_127 (mvin (hsk.2.1 11 14 _ rfl) hv.1) ?_
                          replace hv := hv.2
                          refine tr_aload_n (pc := 128) 0 k_fm_joint_128 rfl rfl ?_
                          refine tr_getP (pc := 129) k_fm_joint_129 fl_fm_41 rfl (Eq.trans (hP_setI) (hsk.1 10 16 _ rfl)) ?_
                          refine tr_aload_n (pc := 132) 0 k_fm_joint_132 rfl rfl ?_
                          refine tr_getIx (pc := 133) k_fm_joint_133 fl_fm_155 rfl (hI_nk (by decide)) ?_
                          refine tr_iload_n (pc := 136) 1 k_fm_joint_136 rfl rfl ?_
                          refine tr_if_eq (pc := 137) 144 k_fm_joint_137 (by decide) (fun q => ?_) (fun q => ?_)
                          · replace hv := hv.1 q
                            refine tr_aload_n (pc := 144) 0 k_fm_joint_144 rfl rfl ?_
                            refine tr_getP (pc := 145) k_fm_joint_145 fl_fm_41 rfl (Eq.trans (hP_setI) (hsk.1 10 16 _ rfl)) ?_
                            refine tr_iload_n (pc := 148) 2 k_fm_joint_148 rfl rfl ?_
                            refine tr_ialdx (pc := 149) k_fm_joint_149 (mvin (hsk.2.1 11 15 _ rfl) hv.1) (hI_nn (by decide)) ?_
                            replace hv := hv.2
                            refine tr_iast (pc := 150) k_fm_joint_150 (mvin (hsk.2.1 11 15 _ rfl) hv.1) ?_
                            replace hv := hv.2
                            refine tr_aload_n (pc := 151) 0 k_fm_joint_151 rfl rfl ?_
                            refine tr_getP (pc := 152) k_fm_joint_152 fl_fm_44 rfl (Eq.trans (Eq.trans (hP_setI) (hP_setI)) (hsk.1 10 17 _ rfl)) ?_
                            refine tr_aload_n (pc := 155) 0 k_fm_joint_155 rfl rfl ?_
                            refine tr_getIx (pc := 156) k_fm_joint_156 fl_fm_155 rfl (Eq.trans (hI_nk (by decide)) (hI_nk (by decide))) ?_
                            refine tr_iload_n (pc := 159) 3 k_fm_joint_159 rfl rfl ?_
                            refine tr_iast (pc := 160) k_fm_joint_160 (mvin (hsk.2.1 11 16 _ rfl) hv.1) ?_
                            replace hv := hv.2
                            refine tr_aload_n (pc := 161) 0 k_fm_joint_161 rfl rfl ?_
                            refine tr_getP (pc := 162) k_fm_joint_162 fl_fm_47 rfl (Eq.trans (Eq.trans (hP_setI) (Eq.trans (hP_setI) (hP_setI))) (hsk.1 10 18 _ rfl)) ?_
                            refine tr_aload_n (pc := 165) 0 k_fm_joint_165 rfl rfl ?_
                            refine tr_getIx (pc := 166) k_fm_joint_166 fl_fm_155 rfl (Eq.trans (hI_nk (by decide)) (Eq.trans (hI_nk (by decide)) (hI_nk (by decide)))) ?_
                            refine tr_iload (pc := 169) k_fm_joint_169 rfl ?_
                            refine tr_iast (pc := 171) k_fm_joint_171 (mvin (hsk.2.1 11 17 _ rfl) hv.1) ?_
                            replace hv := hv.2
                            refine tr_aload_n (pc := 172) 0 k_fm_joint_172 rfl rfl ?_
                            refine tr_getP (pc := 173) k_fm_joint_173 fl_fm_50 rfl (Eq.trans (Eq.trans (hP_setI) (Eq.trans (hP_setI) (Eq.trans (hP_setI) (hP_setI)))) (hsk.1 10 19 _ rfl)) ?_
                            refine tr_aload_n (pc := 176) 0 k_fm_joint_176 rfl rfl ?_
                            refine tr_getIx (pc := 177) k_fm_joint_177 fl_fm_155 rfl (Eq.trans (hI_nk (by decide)) (Eq.trans (hI_nk (by decide)) (Eq.trans (hI_nk (by decide)) (hI_nk (by decide))))) ?_
                            refine tr_iload (pc := 180) k_fm_joint_180 rfl ?_
                            refine tr_iast (pc := 182) k_fm_joint_182 (mvin (hsk.2.1 11 18 _ rfl) hv.1) ?_
                            replace hv := hv.2
                            refine tr_aload_n (pc := 183) 0 k_fm_joint_183 rfl rfl ?_
                            refine tr_getP (pc := 184) k_fm_joint_184 fl_fm_56 rfl (Eq.trans (Eq.trans (hP_setI) (Eq.trans (hP_setI) (Eq.trans (hP_setI) (Eq.trans (hP_setI) (hP_setI))))) (hsk.1 10 21 _ rfl)) ?_
                            refine tr_aload_n (pc := 187) 0 k_fm_joint_187 rfl rfl ?_
                            refine tr_getIx (pc := 188) k_fm_joint_188 fl_fm_155 rfl (Eq.trans (hI_nk (by decide)) (Eq.trans (hI_nk (by decide)) (Eq.trans (hI_nk (by decide)) (Eq.trans (hI_nk (by decide)) (hI_nk (by decide)))))) ?_
                            refine tr_bipush (pc := 191) (v := -9) k_fm_joint_191 (by decide) ?_
                            refine tr_iast (pc := 193) k_fm_joint_193 (mvin (hsk.2.1 11 20 _ rfl) hv.1) ?_
                            replace hv := hv.2
                            refine tr_aload_n (pc := 194) 0 k_fm_joint_194 rfl rfl ?_
                            refine tr_dup (pc := 195) k_fm_joint_195 rfl ?_
                            refine tr_getIx (pc := 196) k_fm_joint_196 fl_fm_155 rfl (Eq.trans (hI_nk (by decide)) (Eq.trans (hI_nk (by decide)) (Eq.trans (hI_nk (by decide)) (Eq.trans (hI_nk (by decide)) (Eq.trans (hI_nk (by decide)) (hI_nk (by decide))))))) ?_
                            refine tr_iconst (pc := 199) (v := 1) k_fm_joint_199 (by decide) ?_
                            refine tr_iadd (pc := 200) k_fm_joint_200 ?_
                            refine tr_putI (pc := 201) k_fm_joint_201 fl_fm_155 (Or.inl rfl) rfl ⟨rfl, rfl⟩ ?_
                            refine tr_aload_n (pc := 204) 0 k_fm_joint_204 rfl rfl ?_
                            refine tr_callV (pc := 205) (d' := d + 1) (mc' := 0) (ms' := 0) [] k_fm_joint_205 ca_fm_changes ml_fm_152 ii_fm_changes ⟨by decide, rfl⟩ pa_fm_changes (by omega) (by omega) (by omega) rfl (Nat.le_of_ble_eq_true rfl) (Nat.le_of_ble_eq_true rfl) (Qk := fun v h9 => mT g me_fm_joint (d + 2) 0 0 208 [some (vr 10 0), some (vi x1), some (vi x2), some (vi x3), some (vi x4), some (vi x5)] (v.toList ++ []) h9 _) ?_ (fun _ _ z => z)
                            show mT g me_fm_changes (d + 1) 0 0 0 [some (vr 10 0)] [] (setI (setI (setI (setI (setI (setI (setI h 11 14 ((hI h 10 0 3).toNatClampNeg) x2) 11 15 ((hI h 10 0 3).toNatClampNeg) (hI h 11 15 x2.toNatClampNeg)) 11 16 ((hI h 10 0 3).toNatClampNeg) x3) 11 17 ((hI h 10 0 3).toNatClampNeg) x4) 11 18 ((hI h 10 0 3).toNatClampNeg) x5) 11 20 ((hI h 10 0 3).toNatClampNeg) (-9 : Int32)) 10 0 3 ((hI h 10 0 3) + (1 : Int32))) _
                            refine tr_aload_n (pc := 0) 0 k_fm_changes_0 rfl rfl ?_
                            refine tr_iconst (pc := 1) (v := 0) k_fm_changes_1 (by decide) ?_
                            refine tr_putI (pc := 2) k_fm_changes_2 fl_fm_137 (Or.inl rfl) rfl ⟨rfl, rfl⟩ ?_
                            refine tr_return (pc := 5) k_fm_changes_5 rfl ?_
                            show mT g me_fm_joint (d + 2) 0 0 208 [some (vr 10 0), some (vi x1), some (vi x2), some (vi x3), some (vi x4), some (vi x5)] [] (setI (setI (setI (setI (setI (setI (setI (setI h 11 14 ((hI h 10 0 3).toNatClampNeg) x2) 11 15 ((hI h 10 0 3).toNatClampNeg) (hI h 11 15 x2.toNatClampNeg)) 11 16 ((hI h 10 0 3).toNatClampNeg) x3) 11 17 ((hI h 10 0 3).toNatClampNeg) x4) 11 18 ((hI h 10 0 3).toNatClampNeg) x5) 11 20 ((hI h 10 0 3).toNatClampNeg) (-9 : Int32)) 10 0 3 ((hI h 10 0 3) + (1 : Int32))) 10 0 55 (0 : Int32)) _
                            refine tr_aload_n (pc := 208) 0 k_fm_joint_208 rfl rfl ?_
                            refine tr_getIx (pc := 209) k_fm_joint_209 fl_fm_155 rfl (Eq.trans (hI_nf (by decide)) (hI_eq)) ?_
                            refine tr_iconst (pc := 212) (v := 1) k_fm_joint_212 (by decide) ?_
                            refine tr_isub (pc := 213) k_fm_joint_213 ?_
                            refine tr_ireturn (pc := 214) k_fm_joint_214 rfl rfl ?_
                            exact hv
                          · replace hv := hv.2 q
                            refine tr_iload_n (pc := 140) 2 k_fm_joint_140 rfl rfl ?_
                            refine tr_goto (pc := 141) 150 k_fm_joint_141 (by decide) ?_
                            refine tr_iast (pc := 150) k_fm_joint_150 (mvin (hsk.2.1 11 15 _ rfl) hv.1) ?_
                            replace hv := hv.2
                            refine tr_aload_n (pc := 151) 0 k_fm_joint_151 rfl rfl ?_
                            refine tr_getP (pc := 152) k_fm_joint_152 fl_fm_44 rfl (Eq.trans (Eq.trans (hP_setI) (hP_setI)) (hsk.1 10 17 _ rfl)) ?_
                            refine tr_aload_n (pc := 155) 0 k_fm_joint_155 rfl rfl ?_
                            refine tr_getIx (pc := 156) k_fm_joint_156 fl_fm_155 rfl (Eq.trans (hI_nk (by decide)) (hI_nk (by decide))) ?_
                            refine tr_iload_n (pc := 159) 3 k_fm_joint_159 rfl rfl ?_
                            refine tr_iast (pc := 160) k_fm_joint_160 (mvin (hsk.2.1 11 16 _ rfl) hv.1) ?_
                            replace hv := hv.2
                            refine tr_aload_n (pc := 161) 0 k_fm_joint_161 rfl rfl ?_
                            refine tr_getP (pc := 162) k_fm_joint_162 fl_fm_47 rfl (Eq.trans (Eq.trans (hP_setI) (Eq.trans (hP_setI) (hP_setI))) (hsk.1 10 18 _ rfl)) ?_
                            refine tr_aload_n (pc := 165) 0 k_fm_joint_165 rfl rfl ?_
                            refine tr_getIx (pc := 166) k_fm_joint_166 fl_fm_155 rfl (Eq.trans (hI_nk (by decide)) (Eq.trans (hI_nk (by decide)) (hI_nk (by decide)))) ?_
                            refine tr_iload (pc := 169) k_fm_joint_169 rfl ?_
                            refine tr_iast (pc := 171) k_fm_joint_171 (mvin (hsk.2.1 11 17 _ rfl) hv.1) ?_
                            replace hv := hv.2
                            refine tr_aload_n (pc := 172) 0 k_fm_joint_172 rfl rfl ?_
                            refine tr_getP (pc := 173) k_fm_joint_173 fl_fm_50 rfl (Eq.trans (Eq.trans (hP_setI) (Eq.trans (hP_setI) (Eq.trans (hP_setI) (hP_setI)))) (hsk.1 10 19 _ rfl)) ?_
                            refine tr_aload_n (pc := 176) 0 k_fm_joint_176 rfl rfl ?_
                            refine tr_getIx (pc := 177) k_fm_joint_177 fl_fm_155 rfl (Eq.trans (hI_nk (by decide)) (Eq.trans (hI_nk (by decide)) (Eq.trans (hI_nk (by decide)) (hI_nk (by decide))))) ?_
                            refine tr_iload (pc := 180) k_fm_joint_180 rfl ?_
                            refine tr_iast (pc := 182) k_fm_joint_182 (mvin (hsk.2.1 11 18 _ rfl) hv.1) ?_
                            replace hv := hv.2
                            refine tr_aload_n (pc := 183) 0 k_fm_joint_183 rfl rfl ?_
                            refine tr_getP (pc := 184) k_fm_joint_184 fl_fm_56 rfl (Eq.trans (Eq.trans (hP_setI) (Eq.trans (hP_setI) (Eq.trans (hP_setI) (Eq.trans (hP_setI) (hP_setI))))) (hsk.1 10 21 _ rfl)) ?_
                            refine tr_aload_n (pc := 187) 0 k_fm_joint_187 rfl rfl ?_
                            refine tr_getIx (pc := 188) k_fm_joint_188 fl_fm_155 rfl (Eq.trans (hI_nk (by decide)) (Eq.trans (hI_nk (by decide)) (Eq.trans (hI_nk (by decide)) (Eq.trans (hI_nk (by decide)) (hI_nk (by decide)))))) ?_
                            refine tr_bipush (pc := 191) (v := -9) k_fm_joint_191 (by decide) ?_
                            refine tr_iast (pc := 193) k_fm_joint_193 (mvin (hsk.2.1 11 20 _ rfl) hv.1) ?_
                            replace hv := hv.2
                            refine tr_aload_n (pc := 194) 0 k_fm_joint_194 rfl rfl ?_
                            refine tr_dup (pc := 195) k_fm_joint_195 rfl ?_
                            refine tr_getIx (pc := 196) k_fm_joint_196 fl_fm_155 rfl (Eq.trans (hI_nk (by decide)) (Eq.trans (hI_nk (by decide)) (Eq.trans (hI_nk (by decide)) (Eq.trans (hI_nk (by decide)) (Eq.trans (hI_nk (by decide)) (hI_nk (by decide))))))) ?_
                            refine tr_iconst (pc := 199) (v := 1) k_fm_joint_199 (by decide) ?_
                            refine tr_iadd (pc := 200) k_fm_joint_200 ?_
                            refine tr_putI (pc := 201) k_fm_joint_201 fl_fm_155 (Or.inl rfl) rfl ⟨rfl, rfl⟩ ?_
                            refine tr_aload_n (pc := 204) 0 k_fm_joint_204 rfl rfl ?_
                            refine tr_callV (pc := 205) (d' := d + 1) (mc' := 0) (ms' := 0) [] k_fm_joint_205 ca_fm_changes ml_fm_152 ii_fm_changes ⟨by decide, rfl⟩ pa_fm_changes (by omega) (by omega) (by omega) rfl (Nat.le_of_ble_eq_true rfl) (Nat.le_of_ble_eq_true rfl) (Qk := fun v h9 => mT g me_fm_joint (d + 2) 0 0 208 [some (vr 10 0), some (vi x1), some (vi x2), some (vi x3), some (vi x4), some (vi x5)] (v.toList ++ []) h9 _) ?_ (fun _ _ z => z)
                            show mT g me_fm_changes (d + 1) 0 0 0 [some (vr 10 0)] [] (setI (setI (setI (setI (setI (setI (setI h 11 14 ((hI h 10 0 3).toNatClampNeg) x2) 11 15 ((hI h 10 0 3).toNatClampNeg) x2) 11 16 ((hI h 10 0 3).toNatClampNeg) x3) 11 17 ((hI h 10 0 3).toNatClampNeg) x4) 11 18 ((hI h 10 0 3).toNatClampNeg) x5) 11 20 ((hI h 10 0 3).toNatClampNeg) (-9 : Int32)) 10 0 3 ((hI h 10 0 3) + (1 : Int32))) _
                            refine tr_aload_n (pc := 0) 0 k_fm_changes_0 rfl rfl ?_
                            refine tr_iconst (pc := 1) (v := 0) k_fm_changes_1 (by decide) ?_
                            refine tr_putI (pc := 2) k_fm_changes_2 fl_fm_137 (Or.inl rfl) rfl ⟨rfl, rfl⟩ ?_
                            refine tr_return (pc := 5) k_fm_changes_5 rfl ?_
                            show mT g me_fm_joint (d + 2) 0 0 208 [some (vr 10 0), some (vi x1), some (vi x2), some (vi x3), some (vi x4), some (vi x5)] [] (setI (setI (setI (setI (setI (setI (setI (setI h 11 14 ((hI h 10 0 3).toNatClampNeg) x2) 11 15 ((hI h 10 0 3).toNatClampNeg) x2) 11 16 ((hI h 10 0 3).toNatClampNeg) x3) 11 17 ((hI h 10 0 3).toNatClampNeg) x4) 11 18 ((hI h 10 0 3).toNatClampNeg) x5) 11 20 ((hI h 10 0 3).toNatClampNeg) (-9 : Int32)) 10 0 3 ((hI h 10 0 3) + (1 : Int32))) 10 0 55 (0 : Int32)) _
                            refine tr_aload_n (pc := 208) 0 k_fm_joint_208 rfl rfl ?_
                            refine tr_getIx (pc := 209) k_fm_joint_209 fl_fm_155 rfl (Eq.trans (hI_nf (by decide)) (hI_eq)) ?_
                            refine tr_iconst (pc := 212) (v := 1) k_fm_joint_212 (by decide) ?_
                            refine tr_isub (pc := 213) k_fm_joint_213 ?_
                            refine tr_ireturn (pc := 214) k_fm_joint_214 rfl rfl ?_
                            exact hv
                        · replace hv := hv.2 q
                          refine tr_bipush (pc := 121) (v := -9) k_fm_joint_121 (by decide) ?_
                          refine tr_goto (pc := 123) 127 k_fm_joint_123 (by decide) ?_
                          refine tr_iast (pc := 127) k_fm_joint_127 (mvin (hsk.2.1 11 14 _ rfl) hv.1) ?_
                          replace hv := hv.2
                          refine tr_aload_n (pc := 128) 0 k_fm_joint_128 rfl rfl ?_
                          refine tr_getP (pc := 129) k_fm_joint_129 fl_fm_41 rfl (Eq.trans (hP_setI) (hsk.1 10 16 _ rfl)) ?_
                          refine tr_aload_n (pc := 132) 0 k_fm_joint_132 rfl rfl ?_
                          refine tr_getIx (pc := 133) k_fm_joint_133 fl_fm_155 rfl (hI_nk (by decide)) ?_
                          refine tr_iload_n (pc := 136) 1 k_fm_joint_136 rfl rfl ?_
                          refine tr_if_eq (pc := 137) 144 k_fm_joint_137 (by decide) (fun q => ?_) (fun q => ?_)
                          · replace hv := hv.1 q
                            refine tr_aload_n (pc := 144) 0 k_fm_joint_144 rfl rfl ?_
                            refine tr_getP (pc := 145) k_fm_joint_145 fl_fm_41 rfl (Eq.trans (hP_setI) (hsk.1 10 16 _ rfl)) ?_
                            refine tr_iload_n (pc := 148) 2 k_fm_joint_148 rfl rfl ?_
                            refine tr_ialdx (pc := 149) k_fm_joint_149 (mvin (hsk.2.1 11 15 _ rfl) hv.1) (hI_nn (by decide)) ?_
                            replace hv := hv.2
                            refine tr_iast (pc := 150) k_fm_joint_150 (mvin (hsk.2.1 11 15 _ rfl) hv.1) ?_
                            replace hv := hv.2
                            refine tr_aload_n (pc := 151) 0 k_fm_joint_151 rfl rfl ?_
                            refine tr_getP (pc := 152) k_fm_joint_152 fl_fm_44 rfl (Eq.trans (Eq.trans (hP_setI) (hP_setI)) (hsk.1 10 17 _ rfl)) ?_
                            refine tr_aload_n (pc := 155) 0 k_fm_joint_155 rfl rfl ?_
                            refine tr_getIx (pc := 156) k_fm_joint_156 fl_fm_155 rfl (Eq.trans (hI_nk (by decide)) (hI_nk (by decide))) ?_
                            refine tr_iload_n (pc := 159) 3 k_fm_joint_159 rfl rfl ?_
                            refine tr_iast (pc := 160) k_fm_joint_160 (mvin (hsk.2.1 11 16 _ rfl) hv.1) ?_
                            replace hv := hv.2
                            refine tr_aload_n (pc := 161) 0 k_fm_joint_161 rfl rfl ?_
                            refine tr_getP (pc := 162) k_fm_joint_162 fl_fm_47 rfl (Eq.trans (Eq.trans (hP_setI) (Eq.trans (hP_setI) (hP_setI))) (hsk.1 10 18 _ rfl)) ?_
                            refine tr_aload_n (pc := 165) 0 k_fm_joint_165 rfl rfl ?_
                            refine tr_getIx (pc := 166) k_fm_joint_166 fl_fm_155 rfl (Eq.trans (hI_nk (by decide)) (Eq.trans (hI_nk (by decide)) (hI_nk (by decide)))) ?_
                            refine tr_iload (pc := 169) k_fm_joint_169 rfl ?_
                            refine tr_iast (pc := 171) k_fm_joint_171 (mvin (hsk.2.1 11 17 _ rfl) hv.1) ?_
                            replace hv := hv.2
                            refine tr_aload_n (pc := 172) 0 k_fm_joint_172 rfl rfl ?_
                            refine tr_getP (pc := 173) k_fm_joint_173 fl_fm_50 rfl (Eq.trans (Eq.trans (hP_setI) (Eq.trans (hP_setI) (Eq.trans (hP_setI) (hP_setI)))) (hsk.1 10 19 _ rfl)) ?_
                            refine tr_aload_n (pc := 176) 0 k_fm_joint_176 rfl rfl ?_
                            refine tr_getIx (pc := 177) k_fm_joint_177 fl_fm_155 rfl (Eq.trans (hI_nk (by decide)) (Eq.trans (hI_nk (by decide)) (Eq.trans (hI_nk (by decide)) (hI_nk (by decide))))) ?_
                            refine tr_iload (pc := 180) k_fm_joint_180 rfl ?_
                            refine tr_iast (pc := 182) k_fm_joint_182 (mvin (hsk.2.1 11 18 _ rfl) hv.1) ?_
                            replace hv := hv.2
                            refine tr_aload_n (pc := 183) 0 k_fm_joint_183 rfl rfl ?_
                            refine tr_getP (pc := 184) k_fm_joint_184 fl_fm_56 rfl (Eq.trans (Eq.trans (hP_setI) (Eq.trans (hP_setI) (Eq.trans (hP_setI) (Eq.trans (hP_setI) (hP_setI))))) (hsk.1 10 21 _ rfl)) ?_
                            refine tr_aload_n (pc := 187) 0 k_fm_joint_187 rfl rfl ?_
                            refine tr_getIx (pc := 188) k_fm_joint_188 fl_fm_155 rfl (Eq.trans (hI_nk (by decide)) (Eq.trans (hI_nk (by decide)) (Eq.trans (hI_nk (by decide)) (Eq.trans (hI_nk (by decide)) (hI_nk (by decide)))))) ?_
                            refine tr_bipush (pc := 191) (v := -9) k_fm_joint_191 (by decide) ?_
                            refine tr_iast (pc := 193) k_fm_joint_193 (mvin (hsk.2.1 11 20 _ rfl) hv.1) ?_
                            replace hv := hv.2
                            refine tr_aload_n (pc := 194) 0 k_fm_joint_194 rfl rfl ?_
                            refine tr_dup (pc := 195) k_fm_joint_195 rfl ?_
                            refine tr_getIx (pc := 196) k_fm_joint_196 fl_fm_155 rfl (Eq.trans (hI_nk (by decide)) (Eq.trans (hI_nk (by decide)) (Eq.trans (hI_nk (by decide)) (Eq.trans (hI_nk (by decide)) (Eq.trans (hI_nk (by decide)) (hI_nk (by decide))))))) ?_
                            refine tr_iconst (pc := 199) (v := 1) k_fm_joint_199 (by decide) ?_
                            refine tr_iadd (pc := 200) k_fm_joint_200 ?_
                            refine tr_putI (pc := 201) k_fm_joint_201 fl_fm_155 (Or.inl rfl) rfl ⟨rfl, rfl⟩ ?_
                            refine tr_aload_n (pc := 204) 0 k_fm_joint_204 rfl rfl ?_
                            refine tr_callV (pc := 205) (d' := d + 1) (mc' := 0) (ms' := 0) [] k_fm_joint_205 ca_fm_changes ml_fm_152 ii_fm_changes ⟨by decide, rfl⟩ pa_fm_changes (by omega) (by omega) (by omega) rfl (Nat.le_of_ble_eq_true rfl) (Nat.le_of_ble_eq_true rfl) (Qk := fun v h9 => mT g me_fm_joint (d + 2) 0 0 208 [some (vr 10 0), some (vi x1), some (vi x2), some (vi x3), some (vi x4), some (vi x5)] (v.toList ++ []) h9 _) ?_ (fun _ _ z => z)
                            show mT g me_fm_changes (d + 1) 0 0 0 [some (vr 10 0)] [] (setI (setI (setI (setI (setI (setI (setI h 11 14 ((hI h 10 0 3).toNatClampNeg) (-9 : Int32)) 11 15 ((hI h 10 0 3).toNatClampNeg) (hI h 11 15 x2.toNatClampNeg)) 11 16 ((hI h 10 0 3).toNatClampNeg) x3) 11 17 ((hI h 10 0 3).toNatClampNeg) x4) 11 18 ((hI h 10 0 3).toNatClampNeg) x5) 11 20 ((hI h 10 0 3).toNatClampNeg) (-9 : Int32)) 10 0 3 ((hI h 10 0 3) + (1 : Int32))) _
                            refine tr_aload_n (pc := 0) 0 k_fm_changes_0 rfl rfl ?_
                            refine tr_iconst (pc := 1) (v := 0) k_fm_changes_1 (by decide) ?_
                            refine tr_putI (pc := 2) k_fm_changes_2 fl_fm_137 (Or.inl rfl) rfl ⟨rfl, rfl⟩ ?_
                            refine tr_return (pc := 5) k_fm_changes_5 rfl ?_
                            show mT g me_fm_joint (d + 2) 0 0 208 [some (vr 10 0), some (vi x1), some (vi x2), some (vi x3), some (vi x4), some (vi x5)] [] (setI (setI (setI (setI (setI (setI (setI (setI h 11 14 ((hI h 10 0 3).toNatClampNeg) (-9 : Int32)) 11 15 ((hI h 10 0 3).toNatClampNeg) (hI h 11 15 x2.toNatClampNeg)) 11 16 ((hI h 10 0 3).toNatClampNeg) x3) 11 17 ((hI h 10 0 3).toNatClampNeg) x4) 11 18 ((hI h 10 0 3).toNatClampNeg) x5) 11 20 ((hI h 10 0 3).toNatClampNeg) (-9 : Int32)) 10 0 3 ((hI h 10 0 3) + (1 : Int32))) 10 0 55 (0 : Int32)) _
                            refine tr_aload_n (pc := 208) 0 k_fm_joint_208 rfl rfl ?_
                            refine tr_getIx (pc := 209) k_fm_joint_209 fl_fm_155 rfl (Eq.trans (hI_nf (by decide)) (hI_eq)) ?_
                            refine tr_iconst (pc := 212) (v := 1) k_fm_joint_212 (by decide) ?_
                            refine tr_isub (pc := 213) k_fm_joint_213 ?_
                            refine tr_ireturn (pc := 214) k_fm_joint_214 rfl rfl ?_
                            exact hv
                          · replace hv := hv.2 q
                            refine tr_iload_n (pc := 140) 2 k_fm_joint_140 rfl rfl ?_
                            refine tr_goto (pc := 141) 150 k_fm_joint_141 (by decide) ?_
                            refine tr_iast (pc := 150) k_fm_joint_150 (mvin (hsk.2.1 11 15 _ rfl) hv.1) ?_
                            replace hv := hv.2
                            refine tr_aload_n (pc := 151) 0 k_fm_joint_151 rfl rfl ?_
                            refine tr_getP (pc := 152) k_fm_joint_152 fl_fm_44 rfl (Eq.trans (Eq.trans (hP_setI) (hP_setI)) (hsk.1 10 17 _ rfl)) ?_
                            refine tr_aload_n (pc := 155) 0 k_fm_joint_155 rfl rfl ?_
                            refine tr_getIx (pc := 156) k_fm_joint_156 fl_fm_155 rfl (Eq.trans (hI_nk (by decide)) (hI_nk (by decide))) ?_
                            refine tr_iload_n (pc := 159) 3 k_fm_joint_159 rfl rfl ?_
                            refine tr_iast (pc := 160) k_fm_joint_160 (mvin (hsk.2.1 11 16 _ rfl) hv.1) ?_
                            replace hv := hv.2
                            refine tr_aload_n (pc := 161) 0 k_fm_joint_161 rfl rfl ?_
                            refine tr_getP (pc := 162) k_fm_joint_162 fl_fm_47 rfl (Eq.trans (Eq.trans (hP_setI) (Eq.trans (hP_setI) (hP_setI))) (hsk.1 10 18 _ rfl)) ?_
                            refine tr_aload_n (pc := 165) 0 k_fm_joint_165 rfl rfl ?_
                            refine tr_getIx (pc := 166) k_fm_joint_166 fl_fm_155 rfl (Eq.trans (hI_nk (by decide)) (Eq.trans (hI_nk (by decide)) (hI_nk (by decide)))) ?_
                            refine tr_iload (pc := 169) k_fm_joint_169 rfl ?_
                            refine tr_iast (pc := 171) k_fm_joint_171 (mvin (hsk.2.1 11 17 _ rfl) hv.1) ?_
                            replace hv := hv.2
                            refine tr_aload_n (pc := 172) 0 k_fm_joint_172 rfl rfl ?_
                            refine tr_getP (pc := 173) k_fm_joint_173 fl_fm_50 rfl (Eq.trans (Eq.trans (hP_setI) (Eq.trans (hP_setI) (Eq.trans (hP_setI) (hP_setI)))) (hsk.1 10 19 _ rfl)) ?_
                            refine tr_aload_n (pc := 176) 0 k_fm_joint_176 rfl rfl ?_
                            refine tr_getIx (pc := 177) k_fm_joint_177 fl_fm_155 rfl (Eq.trans (hI_nk (by decide)) (Eq.trans (hI_nk (by decide)) (Eq.trans (hI_nk (by decide)) (hI_nk (by decide))))) ?_
                            refine tr_iload (pc := 180) k_fm_joint_180 rfl ?_
                            refine tr_iast (pc := 182) k_fm_joint_182 (mvin (hsk.2.1 11 18 _ rfl) hv.1) ?_
                            replace hv := hv.2
                            refine tr_aload_n (pc := 183) 0 k_fm_joint_183 rfl rfl ?_
                            refine tr_getP (pc := 184) k_fm_joint_184 fl_fm_56 rfl (Eq.trans (Eq.trans (hP_setI) (Eq.trans (hP_setI) (Eq.trans (hP_setI) (Eq.trans (hP_setI) (hP_setI))))) (hsk.1 10 21 _ rfl)) ?_
                            refine tr_aload_n (pc := 187) 0 k_fm_joint_187 rfl rfl ?_
                            refine tr_getIx (pc := 188) k_fm_joint_188 fl_fm_155 rfl (Eq.trans (hI_nk (by decide)) (Eq.trans (hI_nk (by decide)) (Eq.trans (hI_nk (by decide)) (Eq.trans (hI_nk (by decide)) (hI_nk (by decide)))))) ?_
                            refine tr_bipush (pc := 191) (v := -9) k_fm_joint_191 (by decide) ?_
                            refine tr_iast (pc := 193) k_fm_joint_193 (mvin (hsk.2.1 11 20 _ rfl) hv.1) ?_
                            replace hv := hv.2
                            refine tr_aload_n (pc := 194) 0 k_fm_joint_194 rfl rfl ?_
                            refine tr_dup (pc := 195) k_fm_joint_195 rfl ?_
                            refine tr_getIx (pc := 196) k_fm_joint_196 fl_fm_155 rfl (Eq.trans (hI_nk (by decide)) (Eq.trans (hI_nk (by decide)) (Eq.trans (hI_nk (by decide)) (Eq.trans (hI_nk (by decide)) (Eq.trans (hI_nk (by decide)) (hI_nk (by decide))))))) ?_
                            refine tr_iconst (pc := 199) (v := 1) k_fm_joint_199 (by decide) ?_
                            refine tr_iadd (pc := 200) k_fm_joint_200 ?_
                            refine tr_putI (pc := 201) k_fm_joint_201 fl_fm_155 (Or.inl rfl) rfl ⟨rfl, rfl⟩ ?_
                            refine tr_aload_n (pc := 204) 0 k_fm_joint_204 rfl rfl ?_
                            refine tr_callV (pc := 205) (d' := d + 1) (mc' := 0) (ms' := 0) [] k_fm_joint_205 ca_fm_changes ml_fm_152 ii_fm_changes ⟨by decide, rfl⟩ pa_fm_changes (by omega) (by omega) (by omega) rfl (Nat.le_of_ble_eq_true rfl) (Nat.le_of_ble_eq_true rfl) (Qk := fun v h9 => mT g me_fm_joint (d + 2) 0 0 208 [some (vr 10 0), some (vi x1), some (vi x2), some (vi x3), some (vi x4), some (vi x5)] (v.toList ++ []) h9 _) ?_ (fun _ _ z => z)
                            show mT g me_fm_changes (d + 1) 0 0 0 [some (vr 10 0)] [] (setI (setI (setI (setI (setI (setI (setI h 11 14 ((hI h 10 0 3).toNatClampNeg) (-9 : Int32)) 11 15 ((hI h 10 0 3).toNatClampNeg) x2) 11 16 ((hI h 10 0 3).toNatClampNeg) x3) 11 17 ((hI h 10 0 3).toNatClampNeg) x4) 11 18 ((hI h 10 0 3).toNatClampNeg) x5) 11 20 ((hI h 10 0 3).toNatClampNeg) (-9 : Int32)) 10 0 3 ((hI h 10 0 3) + (1 : Int32))) _
                            refine tr_aload_n (pc := 0) 0 k_fm_changes_0 rfl rfl ?_
                            refine tr_iconst (pc := 1) (v := 0) k_fm_changes_1 (by decide) ?_
                            refine tr_putI (pc := 2) k_fm_changes_2 fl_fm_137 (Or.inl rfl) rfl ⟨rfl, rfl⟩ ?_
                            refine tr_return (pc := 5) k_fm_changes_5 rfl ?_
                            show mT g me_fm_joint (d + 2) 0 0 208 [some (vr 10 0), some (vi x1), some (vi x2), some (vi x3), some (vi x4), some (vi x5)] [] (setI (setI (setI (setI (setI (setI (setI (setI h 11 14 ((hI h 10 0 3).toNatClampNeg) (-9 : Int32)) 11 15 ((hI h 10 0 3).toNatClampNeg) x2) 11 16 ((hI h 10 0 3).toNatClampNeg) x3) 11 17 ((hI h 10 0 3).toNatClampNeg) x4) 11 18 ((hI h 10 0 3).toNatClampNeg) x5) 11 20 ((hI h 10 0 3).toNatClampNeg) (-9 : Int32)) 10 0 3 ((hI h 10 0 3) + (1 : Int32))) 10 0 55 (0 : Int32)) _
                            refine tr_aload_n (pc := 208) 0 k_fm_joint_208 rfl rfl ?_
                            refine tr_getIx (pc := 209) k_fm_joint_209 fl_fm_155 rfl (Eq.trans (hI_nf (by decide)) (hI_eq)) ?_
                            refine tr_iconst (pc := 212) (v := 1) k_fm_joint_212 (by decide) ?_
                            refine tr_isub (pc := 213) k_fm_joint_213 ?_
                            refine tr_ireturn (pc := 214) k_fm_joint_214 rfl rfl ?_
                            exact hv
                      · replace hv := hv.2 q
                        refine tr_aload_n (pc := 93) 0 k_fm_joint_93 rfl rfl ?_
                        refine tr_getP (pc := 94) k_fm_joint_94 fl_fm_59 rfl (Eq.trans rfl (hsk.1 10 22 _ rfl)) ?_
                        refine tr_iload_n (pc := 97) 2 k_fm_joint_97 rfl rfl ?_
                        refine tr_zaldx (pc := 98) k_fm_joint_98 (mvin (hsk.2.1 12 0 _ rfl) hv.1) rfl ?_
                        replace hv := hv.2
                        refine tr_if_eq (pc := 99) 109 k_fm_joint_99 (by decide) (fun q => ?_) (fun q => ?_)
                        · replace hv := hv.1 q
                          refine tr_aload_n (pc := 109) 0 k_fm_joint_109 rfl rfl ?_
                          refine tr_getP (pc := 110) k_fm_joint_110 fl_fm_38 rfl (Eq.trans rfl (hsk.1 10 15 _ rfl)) ?_
                          refine tr_aload_n (pc := 113) 0 k_fm_joint_113 rfl rfl ?_
                          refine tr_getIx (pc := 114) k_fm_joint_114 fl_fm_155 rfl rfl ?_
                          refine tr_iload_n (pc := 117) 1 k_fm_joint_117 rfl rfl ?_
                          refine tr_if_eq (pc := 118) 126 k_fm_joint_118 (by decide) (fun q => ?_) (fun q => ?_)
                          · replace hv := hv.1 q
                            refine tr_iload_n (pc := 126) 2 k_fm_joint_126 rfl rfl ?_
                            refine tr_iast (pc := 127) k_fm_joint_127 (mvin (hsk.2.1 11 14 _ rfl) hv.1) ?_
                            replace hv := hv.2
                            refine tr_aload_n (pc := 128) 0 k_fm_joint_128 rfl rfl ?_
                            refine tr_getP (pc := 129) k_fm_joint_129 fl_fm_41 rfl (Eq.trans (hP_setI) (hsk.1 10 16 _ rfl)) ?_
                            refine tr_aload_n (pc := 132) 0 k_fm_joint_132 rfl rfl ?_
                            refine tr_getIx (pc := 133) k_fm_joint_133 fl_fm_155 rfl (hI_nk (by decide)) ?_
                            refine tr_iload_n (pc := 136) 1 k_fm_joint_136 rfl rfl ?_
                            refine tr_if_eq (pc := 137) 144 k_fm_joint_137 (by decide) (fun q => ?_) (fun q => ?_)
                            · replace hv := hv.1 q
                              refine tr_aload_n (pc := 144) 0 k_fm_joint_144 rfl rfl ?_
                              refine tr_getP (pc := 145) k_fm_joint_145 fl_fm_41 rfl (Eq.trans (hP_setI) (hsk.1 10 16 _ rfl)) ?_
                              refine tr_iload_n (pc := 148) 2 k_fm_joint_148 rfl rfl ?_
                              refine tr_ialdx (pc := 149) k_fm_joint_149 (mvin (hsk.2.1 11 15 _ rfl) hv.1) (hI_nn (by decide)) ?_
                              replace hv := hv.2
                              refine tr_iast (pc := 150) k_fm_joint_150 (mvin (hsk.2.1 11 15 _ rfl) hv.1) ?_
                              replace hv := hv.2
                              refine tr_aload_n (pc := 151) 0 k_fm_joint_151 rfl rfl ?_
                              refine tr_getP (pc := 152) k_fm_joint_152 fl_fm_44 rfl (Eq.trans (Eq.trans (hP_setI) (hP_setI)) (hsk.1 10 17 _ rfl)) ?_
                              refine tr_aload_n (pc := 155) 0 k_fm_joint_155 rfl rfl ?_
                              refine tr_getIx (pc := 156) k_fm_joint_156 fl_fm_155 rfl (Eq.trans (hI_nk (by decide)) (hI_nk (by decide))) ?_
                              refine tr_iload_n (pc := 159) 3 k_fm_joint_159 rfl rfl ?_
                              refine tr_iast (pc := 160) k_fm_joint_160 (mvin (hsk.2.1 11 16 _ rfl) hv.1) ?_
                              replace hv := hv.2
                              refine tr_aload_n (pc := 161) 0 k_fm_joint_161 rfl rfl ?_
                              refine tr_getP (pc := 162) k_fm_joint_162 fl_fm_47 rfl (Eq.trans (Eq.trans (hP_setI) (Eq.trans (hP_setI) (hP_setI))) (hsk.1 10 18 _ rfl)) ?_
                              refine tr_aload_n (pc := 165) 0 k_fm_joint_165 rfl rfl ?_
                              refine tr_getIx (pc := 166) k_fm_joint_166 fl_fm_155 rfl (Eq.trans (hI_nk (by decide)) (Eq.trans (hI_nk (by decide)) (hI_nk (by decide)))) ?_
                              refine tr_iload (pc := 169) k_fm_joint_169 rfl ?_
                              refine tr_iast (pc := 171) k_fm_joint_171 (mvin (hsk.2.1 11 17 _ rfl) hv.1) ?_
                              replace hv := hv.2
                              refine tr_aload_n (pc := 172) 0 k_fm_joint_172 rfl rfl ?_
                              refine tr_getP (pc := 173) k_fm_joint_173 fl_fm_50 rfl (Eq.trans (Eq.trans (hP_setI) (Eq.trans (hP_setI) (Eq.trans (hP_setI) (hP_setI)))) (hsk.1 10 19 _ rfl)) ?_
                              refine tr_aload_n (pc := 176) 0 k_fm_joint_176 rfl rfl ?_
                              refine tr_getIx (pc := 177) k_fm_joint_177 fl_fm_155 rfl (Eq.trans (hI_nk (by decide)) (Eq.trans (hI_nk (by decide)) (Eq.trans (hI_nk (by decide)) (hI_nk (by decide))))) ?_
                              refine tr_iload (pc := 180) k_fm_joint_180 rfl ?_
                              refine tr_iast (pc := 182) k_fm_joint_182 (mvin (hsk.2.1 11 18 _ rfl) hv.1) ?_
                              replace hv := hv.2
                              refine tr_aload_n (pc := 183) 0 k_fm_joint_183 rfl rfl ?_
                              refine tr_getP (pc := 184) k_fm_joint_184 fl_fm_56 rfl (Eq.trans (Eq.trans (hP_setI) (Eq.trans (hP_setI) (Eq.trans (hP_setI) (Eq.trans (hP_setI) (hP_setI))))) (hsk.1 10 21 _ rfl)) ?_
                              refine tr_aload_n (pc := 187) 0 k_fm_joint_187 rfl rfl ?_
                              refine tr_getIx (pc := 188) k_fm_joint_188 fl_fm_155 rfl (Eq.trans (hI_nk (by decide)) (Eq.trans (hI_nk (by decide)) (Eq.trans (hI_nk (by decide)) (Eq.trans (hI_nk (by decide)) (hI_nk (by decide)))))) ?_
                              refine tr_bipush (pc := 191) (v := -9) k_fm_joint_191 (by decide) ?_
                              refine tr_iast (pc := 193) k_fm_joint_193 (mvin (hsk.2.1 11 20 _ rfl) hv.1) ?_
                              replace hv := hv.2
                              refine tr_aload_n (pc := 194) 0 k_fm_joint_194 rfl rfl ?_
                              refine tr_dup (pc := 195) k_fm_joint_195 rfl ?_
                              refine tr_getIx (pc := 196) k_fm_joint_196 fl_fm_155 rfl (Eq.trans (hI_nk (by decide)) (Eq.trans (hI_nk (by decide)) (Eq.trans (hI_nk (by decide)) (Eq.trans (hI_nk (by decide)) (Eq.trans (hI_nk (by decide)) (hI_nk (by decide))))))) ?_
                              refine tr_iconst (pc := 199) (v := 1) k_fm_joint_199 (by decide) ?_
                              refine tr_iadd (pc := 200) k_fm_joint_200 ?_
                              refine tr_putI (pc := 201) k_fm_joint_201 fl_fm_155 (Or.inl rfl) rfl ⟨rfl, rfl⟩ ?_
                              refine tr_aload_n (pc := 204) 0 k_fm_joint_204 rfl rfl ?_
                              refine tr_callV (pc := 205) (d' := d + 1) (mc' := 0) (ms' := 0) [] k_fm_joint_205 ca_fm_changes ml_fm_152 ii_fm_changes ⟨by decide, rfl⟩ pa_fm_changes (by omega) (by omega) (by omega) rfl (Nat.le_of_ble_eq_true rfl) (Nat.le_of_ble_eq_true rfl) (Qk := fun v h9 => mT g me_fm_joint (d + 2) 0 0 208 [some (vr 10 0), some (vi x1), some (vi x2), some (vi x3), some (vi x4), some (vi x5)] (v.toList ++ []) h9 _) ?_ (fun _ _ z => z)
                              show mT g me_fm_changes (d + 1) 0 0 0 [some (vr 10 0)] [] (setI (setI (setI (setI (setI (setI (setI h 11 14 ((hI h 10 0 3).toNatClampNeg) x2) 11 15 ((hI h 10 0 3).toNatClampNeg) (hI h 11 15 x2.toNatClampNeg)) 11 16 ((hI h 10 0 3).toNatClampNeg) x3) 11 17 ((hI h 10 0 3).toNatClampNeg) x4) 11 18 ((hI h 10 0 3).toNatClampNeg) x5) 11 20 ((hI h 10 0 3).toNatClampNeg) (-9 : Int32)) 10 0 3 ((hI h 10 0 3) + (1 : Int32))) _
                              refine tr_aload_n (pc := 0) 0 k_fm_changes_0 rfl rfl ?_
                              refine tr_iconst (pc := 1) (v := 0) k_fm_changes_1 (by decide) ?_
                              refine tr_putI (pc := 2) k_fm_changes_2 fl_fm_137 (Or.inl rfl) rfl ⟨rfl, rfl⟩ ?_
                              refine tr_return (pc := 5) k_fm_changes_5 rfl ?_
                              show mT g me_fm_joint (d + 2) 0 0 208 [some (vr 10 0), some (vi x1), some (vi x2), some (vi x3), some (vi x4), some (vi x5)] [] (setI (setI (setI (setI (setI (setI (setI (setI h 11 14 ((hI h 10 0 3).toNatClampNeg) x2) 11 15 ((hI h 10 0 3).toNatClampNeg) (hI h 11 15 x2.toNatClampNeg)) 11 16 ((hI h 10 0 3).toNatClampNeg) x3) 11 17 ((hI h 10 0 3).toNatClampNeg) x4) 11 18 ((hI h 10 0 3).toNatClampNeg) x5) 11 20 ((hI h 10 0 3).toNatClampNeg) (-9 : Int32)) 10 0 3 ((hI h 10 0 3) + (1 : Int32))) 10 0 55 (0 : Int32)) _
                              refine tr_aload_n (pc := 208) 0 k_fm_joint_208 rfl rfl ?_
                              refine tr_getIx (pc := 209) k_fm_joint_209 fl_fm_155 rfl (Eq.trans (hI_nf (by decide)) (hI_eq)) ?_
                              refine tr_iconst (pc := 212) (v := 1) k_fm_joint_212 (by decide) ?_
                              refine tr_isub (pc := 213) k_fm_joint_213 ?_
                              refine tr_ireturn (pc := 214) k_fm_joint_214 rfl rfl ?_
                              exact hv
                            · replace hv := hv.2 q
                              refine tr_iload_n (pc := 140) 2 k_fm_joint_140 rfl rfl ?_
                              refine tr_goto (pc := 141) 150 k_fm_joint_141 (by decide) ?_
                              refine tr_iast (pc := 150) k_fm_joint_150 (mvin (hsk.2.1 11 15 _ rfl) hv.1) ?_
                              replace hv := hv.2
                              refine tr_aload_n (pc := 151) 0 k_fm_joint_151 rfl rfl ?_
                              refine tr_getP (pc := 152) k_fm_joint_152 fl_fm_44 rfl (Eq.trans (Eq.trans (hP_setI) (hP_setI)) (hsk.1 10 17 _ rfl)) ?_
                              refine tr_aload_n (pc := 155) 0 k_fm_joint_155 rfl rfl ?_
                              refine tr_getIx (pc := 156) k_fm_joint_156 fl_fm_155 rfl (Eq.trans (hI_nk (by decide)) (hI_nk (by decide))) ?_
                              refine tr_iload_n (pc := 159) 3 k_fm_joint_159 rfl rfl ?_
                              refine tr_iast (pc := 160) k_fm_joint_160 (mvin (hsk.2.1 11 16 _ rfl) hv.1) ?_
                              replace hv := hv.2
                              refine tr_aload_n (pc := 161) 0 k_fm_joint_161 rfl rfl ?_
                              refine tr_getP (pc := 162) k_fm_joint_162 fl_fm_47 rfl (Eq.trans (Eq.trans (hP_setI) (Eq.trans (hP_setI) (hP_setI))) (hsk.1 10 18 _ rfl)) ?_
                              refine tr_aload_n (pc := 165) 0 k_fm_joint_165 rfl rfl ?_
                              refine tr_getIx (pc := 166) k_fm_joint_166 fl_fm_155 rfl (Eq.trans (hI_nk (by decide)) (Eq.trans (hI_nk (by decide)) (hI_nk (by decide)))) ?_
                              refine tr_iload (pc := 169) k_fm_joint_169 rfl ?_
                              refine tr_iast (pc := 171) k_fm_joint_171 (mvin (hsk.2.1 11 17 _ rfl) hv.1) ?_
                              replace hv := hv.2
                              refine tr_aload_n (pc := 172) 0 k_fm_joint_172 rfl rfl ?_
                              refine tr_getP (pc := 173) k_fm_joint_173 fl_fm_50 rfl (Eq.trans (Eq.trans (hP_setI) (Eq.trans (hP_setI) (Eq.trans (hP_setI) (hP_setI)))) (hsk.1 10 19 _ rfl)) ?_
                              refine tr_aload_n (pc := 176) 0 k_fm_joint_176 rfl rfl ?_
                              refine tr_getIx (pc := 177) k_fm_joint_177 fl_fm_155 rfl (Eq.trans (hI_nk (by decide)) (Eq.trans (hI_nk (by decide)) (Eq.trans (hI_nk (by decide)) (hI_nk (by decide))))) ?_
                              refine tr_iload (pc := 180) k_fm_joint_180 rfl ?_
                              refine tr_iast (pc := 182) k_fm_joint_182 (mvin (hsk.2.1 11 18 _ rfl) hv.1) ?_
                              replace hv := hv.2
                              refine tr_aload_n (pc := 183) 0 k_fm_joint_183 rfl rfl ?_
                              refine tr_getP (pc := 184) k_fm_joint_184 fl_fm_56 rfl (Eq.trans (Eq.trans (hP_setI) (Eq.trans (hP_setI) (Eq.trans (hP_setI) (Eq.trans (hP_setI) (hP_setI))))) (hsk.1 10 21 _ rfl)) ?_
                              refine tr_aload_n (pc := 187) 0 k_fm_joint_187 rfl rfl ?_
                              refine tr_getIx (pc := 188) k_fm_joint_188 fl_fm_155 rfl (Eq.trans (hI_nk (by decide)) (Eq.trans (hI_nk (by decide)) (Eq.trans (hI_nk (by decide)) (Eq.trans (hI_nk (by decide)) (hI_nk (by decide)))))) ?_
                              refine tr_bipush (pc := 191) (v := -9) k_fm_joint_191 (by decide) ?_
                              refine tr_iast (pc := 193) k_fm_joint_193 (mvin (hsk.2.1 11 20 _ rfl) hv.1) ?_
                              replace hv := hv.2
                              refine tr_aload_n (pc := 194) 0 k_fm_joint_194 rfl rfl ?_
                              refine tr_dup (pc := 195) k_fm_joint_195 rfl ?_
                              refine tr_getIx (pc := 196) k_fm_joint_196 fl_fm_155 rfl (Eq.trans (hI_nk (by decide)) (Eq.trans (hI_nk (by decide)) (Eq.trans (hI_nk (by decide)) (Eq.trans (hI_nk (by decide)) (Eq.trans (hI_nk (by decide)) (hI_nk (by decide))))))) ?_
                              refine tr_iconst (pc := 199) (v := 1) k_fm_joint_199 (by decide) ?_
                              refine tr_iadd (pc := 200) k_fm_joint_200 ?_
                              refine tr_putI (pc := 201) k_fm_joint_201 fl_fm_155 (Or.inl rfl) rfl ⟨rfl, rfl⟩ ?_
                              refine tr_aload_n (pc := 204) 0 k_fm_joint_204 rfl rfl ?_
                              refine tr_callV (pc := 205) (d' := d + 1) (mc' := 0) (ms' := 0) [] k_fm_joint_205 ca_fm_changes ml_fm_152 ii_fm_changes ⟨by decide, rfl⟩ pa_fm_changes (by omega) (by omega) (by omega) rfl (Nat.le_of_ble_eq_true rfl) (Nat.le_of_ble_eq_true rfl) (Qk := fun v h9 => mT g me_fm_joint (d + 2) 0 0 208 [some (vr 10 0), some (vi x1), some (vi x2), some (vi x3), some (vi x4), some (vi x5)] (v.toList ++ []) h9 _) ?_ (fun _ _ z => z)
                              show mT g me_fm_changes (d + 1) 0 0 0 [some (vr 10 0)] [] (setI (setI (setI (setI (setI (setI (setI h 11 14 ((hI h 10 0 3).toNatClampNeg) x2) 11 15 ((hI h 10 0 3).toNatClampNeg) x2) 11 16 ((hI h 10 0 3).toNatClampNeg) x3) 11 17 ((hI h 10 0 3).toNatClampNeg) x4) 11 18 ((hI h 10 0 3).toNatClampNeg) x5) 11 20 ((hI h 10 0 3).toNatClampNeg) (-9 : Int32)) 10 0 3 ((hI h 10 0 3) + (1 : Int32))) _
                              refine tr_aload_n (pc := 0) 0 k_fm_changes_0 rfl rfl ?_
                              refine tr_iconst (pc := 1) (v := 0) k_fm_changes_1 (by decide) ?_
                              refine tr_putI (pc := 2) k_fm_changes_2 fl_fm_137 (Or.inl rfl) rfl ⟨rfl, rfl⟩ ?_
                              refine tr_return (pc := 5) k_fm_changes_5 rfl ?_
                              show mT g me_fm_joint (d + 2) 0 0 208 [some (vr 10 0), some (vi x1), some (vi x2), some (vi x3), some (vi x4), some (vi x5)] [] (setI (setI (setI (setI (setI (setI (setI (setI h 11 14 ((hI h 10 0 3).toNatClampNeg) x2) 11 15 ((hI h 10 0 3).toNatClampNeg) x2) 11 16 ((hI h 10 0 3).toNatClampNeg) x3) 11 17 ((hI h 10 0 3).toNatClampNeg) x4) 11 18 ((hI h 10 0 3).toNatClampNeg) x5) 11 20 ((hI h 10 0 3).toNatClampNeg) (-9 : Int32)) 10 0 3 ((hI h 10 0 3) + (1 : Int32))) 10 0 55 (0 : Int32)) _
                              refine tr_aload_n (pc := 208) 0 k_fm_joint_208 rfl rfl ?_
                              refine tr_getIx (pc := 209) k_fm_joint_209 fl_fm_155 rfl (Eq.trans (hI_nf (by decide)) (hI_eq)) ?_
                              refine tr_iconst (pc := 212) (v := 1) k_fm_joint_212 (by decide) ?_
                              refine tr_isub (pc := 213) k_fm_joint_213 ?_
                              refine tr_ireturn (pc := 214) k_fm_joint_214 rfl rfl ?_
                              exact hv
                          · replace hv := hv.2 q
                            refine tr_bipush (pc := 121) (v := -9) k_fm_joint_121 (by decide) ?_
                            refine tr_goto (pc := 123) 127 k_fm_joint_123 (by decide) ?_
                            refine tr_iast (pc := 127) k_fm_joint_127 (mvin (hsk.2.1 11 14 _ rfl) hv.1) ?_
                            replace hv := hv.2
                            refine tr_aload_n (pc := 128) 0 k_fm_joint_128 rfl rfl ?_
                            refine tr_getP (pc := 129) k_fm_joint_129 fl_fm_41 rfl (Eq.trans (hP_setI) (hsk.1 10 16 _ rfl)) ?_
                            refine tr_aload_n (pc := 132) 0 k_fm_joint_132 rfl rfl ?_
                            refine tr_getIx (pc := 133) k_fm_joint_133 fl_fm_155 rfl (hI_nk (by decide)) ?_
                            refine tr_iload_n (pc := 136) 1 k_fm_joint_136 rfl rfl ?_
                            refine tr_if_eq (pc := 137) 144 k_fm_joint_137 (by decide) (fun q => ?_) (fun q => ?_)
                            · replace hv := hv.1 q
                              refine tr_aload_n (pc := 144) 0 k_fm_joint_144 rfl rfl ?_
                              refine tr_getP (pc := 145) k_fm_joint_145 fl_fm_41 rfl (Eq.trans (hP_setI) (hsk.1 10 16 _ rfl)) ?_
                              refine tr_iload_n (pc := 148) 2 k_fm_joint_148 rfl rfl ?_
                              refine tr_ialdx (pc := 149) k_fm_joint_149 (mvin (hsk.2.1 11 15 _ rfl) hv.1) (hI_nn (by decide)) ?_
                              replace hv := hv.2
                              refine tr_iast (pc := 150) k_fm_joint_150 (mvin (hsk.2.1 11 15 _ rfl) hv.1) ?_
                              replace hv := hv.2
                              refine tr_aload_n (pc := 151) 0 k_fm_joint_151 rfl rfl ?_
                              refine tr_getP (pc := 152) k_fm_joint_152 fl_fm_44 rfl (Eq.trans (Eq.trans (hP_setI) (hP_setI)) (hsk.1 10 17 _ rfl)) ?_
                              refine tr_aload_n (pc := 155) 0 k_fm_joint_155 rfl rfl ?_
                              refine tr_getIx (pc := 156) k_fm_joint_156 fl_fm_155 rfl (Eq.trans (hI_nk (by decide)) (hI_nk (by decide))) ?_
                              refine tr_iload_n (pc := 159) 3 k_fm_joint_159 rfl rfl ?_
                              refine tr_iast (pc := 160) k_fm_joint_160 (mvin (hsk.2.1 11 16 _ rfl) hv.1) ?_
                              replace hv := hv.2
                              refine tr_aload_n (pc := 161) 0 k_fm_joint_161 rfl rfl ?_
                              refine tr_getP (pc := 162) k_fm_joint_162 fl_fm_47 rfl (Eq.trans (Eq.trans (hP_setI) (Eq.trans (hP_setI) (hP_setI))) (hsk.1 10 18 _ rfl)) ?_
                              refine tr_aload_n (pc := 165) 0 k_fm_joint_165 rfl rfl ?_
                              refine tr_getIx (pc := 166) k_fm_joint_166 fl_fm_155 rfl (Eq.trans (hI_nk (by decide)) (Eq.trans (hI_nk (by decide)) (hI_nk (by decide)))) ?_
                              refine tr_iload (pc := 169) k_fm_joint_169 rfl ?_
                              refine tr_iast (pc := 171) k_fm_joint_171 (mvin (hsk.2.1 11 17 _ rfl) hv.1) ?_
                              replace hv := hv.2
                              refine tr_aload_n (pc := 172) 0 k_fm_joint_172 rfl rfl ?_
                              refine tr_getP (pc := 173) k_fm_joint_173 fl_fm_50 rfl (Eq.trans (Eq.trans (hP_setI) (Eq.trans (hP_setI) (Eq.trans (hP_setI) (hP_setI)))) (hsk.1 10 19 _ rfl)) ?_
                              refine tr_aload_n (pc := 176) 0 k_fm_joint_176 rfl rfl ?_
                              refine tr_getIx (pc := 177) k_fm_joint_177 fl_fm_155 rfl (Eq.trans (hI_nk (by decide)) (Eq.trans (hI_nk (by decide)) (Eq.trans (hI_nk (by decide)) (hI_nk (by decide))))) ?_
                              refine tr_iload (pc := 180) k_fm_joint_180 rfl ?_
                              refine tr_iast (pc := 182) k_fm_joint_182 (mvin (hsk.2.1 11 18 _ rfl) hv.1) ?_
                              replace hv := hv.2
                              refine tr_aload_n (pc := 183) 0 k_fm_joint_183 rfl rfl ?_
                              refine tr_getP (pc := 184) k_fm_joint_184 fl_fm_56 rfl (Eq.trans (Eq.trans (hP_setI) (Eq.trans (hP_setI) (Eq.trans (hP_setI) (Eq.trans (hP_setI) (hP_setI))))) (hsk.1 10 21 _ rfl)) ?_
                              refine tr_aload_n (pc := 187) 0 k_fm_joint_187 rfl rfl ?_
                              refine tr_getIx (pc := 188) k_fm_joint_188 fl_fm_155 rfl (Eq.trans (hI_nk (by decide)) (Eq.trans (hI_nk (by decide)) (Eq.trans (hI_nk (by decide)) (Eq.trans (hI_nk (by decide)) (hI_nk (by decide)))))) ?_
                              refine tr_bipush (pc := 191) (v := -9) k_fm_joint_191 (by decide) ?_
                              refine tr_iast (pc := 193) k_fm_joint_193 (mvin (hsk.2.1 11 20 _ rfl) hv.1) ?_
                              replace hv := hv.2
                              refine tr_aload_n (pc := 194) 0 k_fm_joint_194 rfl rfl ?_
                              refine tr_dup (pc := 195) k_fm_joint_195 rfl ?_
                              refine tr_getIx (pc := 196) k_fm_joint_196 fl_fm_155 rfl (Eq.trans (hI_nk (by decide)) (Eq.trans (hI_nk (by decide)) (Eq.trans (hI_nk (by decide)) (Eq.trans (hI_nk (by decide)) (Eq.trans (hI_nk (by decide)) (hI_nk (by decide))))))) ?_
                              refine tr_iconst (pc := 199) (v := 1) k_fm_joint_199 (by decide) ?_
                              refine tr_iadd (pc := 200) k_fm_joint_200 ?_
                              refine tr_putI (pc := 201) k_fm_joint_201 fl_fm_155 (Or.inl rfl) rfl ⟨rfl, rfl⟩ ?_
                              refine tr_aload_n (pc := 204) 0 k_fm_joint_204 rfl rfl ?_
                              refine tr_callV (pc := 205) (d' := d + 1) (mc' := 0) (ms' := 0) [] k_fm_joint_205 ca_fm_changes ml_fm_152 ii_fm_changes ⟨by decide, rfl⟩ pa_fm_changes (by omega) (by omega) (by omega) rfl (Nat.le_of_ble_eq_true rfl) (Nat.le_of_ble_eq_true rfl) (Qk := fun v h9 => mT g me_fm_joint (d + 2) 0 0 208 [some (vr 10 0), some (vi x1), some (vi x2), some (vi x3), some (vi x4), some (vi x5)] (v.toList ++ []) h9 _) ?_ (fun _ _ z => z)
                              show mT g me_fm_changes (d + 1) 0 0 0 [some (vr 10 0)] [] (setI (setI (setI (setI (setI (setI (setI h 11 14 ((hI h 10 0 3).toNatClampNeg) (-9 : Int32)) 11 15 ((hI h 10 0 3).toNatClampNeg) (hI h 11 15 x2.toNatClampNeg)) 11 16 ((hI h 10 0 3).toNatClampNeg) x3) 11 17 ((hI h 10 0 3).toNatClampNeg) x4) 11 18 ((hI h 10 0 3).toNatClampNeg) x5) 11 20 ((hI h 10 0 3).toNatClampNeg) (-9 : Int32)) 10 0 3 ((hI h 10 0 3) + (1 : Int32))) _
                              refine tr_aload_n (pc := 0) 0 k_fm_changes_0 rfl rfl ?_
                              refine tr_iconst (pc := 1) (v := 0) k_fm_changes_1 (by decide) ?_
                              refine tr_putI (pc := 2) k_fm_changes_2 fl_fm_137 (Or.inl rfl) rfl ⟨rfl, rfl⟩ ?_
                              refine tr_return (pc := 5) k_fm_changes_5 rfl ?_
                              show mT g me_fm_joint (d + 2) 0 0 208 [some (vr 10 0), some (vi x1), some (vi x2), some (vi x3), some (vi x4), some (vi x5)] [] (setI (setI (setI (setI (setI (setI (setI (setI h 11 14 ((hI h 10 0 3).toNatClampNeg) (-9 : Int32)) 11 15 ((hI h 10 0 3).toNatClampNeg) (hI h 11 15 x2.toNatClampNeg)) 11 16 ((hI h 10 0 3).toNatClampNeg) x3) 11 17 ((hI h 10 0 3).toNatClampNeg) x4) 11 18 ((hI h 10 0 3).toNatClampNeg) x5) 11 20 ((hI h 10 0 3).toNatClampNeg) (-9 : Int32)) 10 0 3 ((hI h 10 0 3) + (1 : Int32))) 10 0 55 (0 : Int32)) _
                              refine tr_aload_n (pc := 208) 0 k_fm_joint_208 rfl rfl ?_
                              refine tr_getIx (pc := 209) k_fm_joint_209 fl_fm_155 rfl (Eq.trans (hI_nf (by decide)) (hI_eq)) ?_
                              refine tr_iconst (pc := 212) (v := 1) k_fm_joint_212 (by decide) ?_
                              refine tr_isub (pc := 213) k_fm_joint_213 ?_
                              refine tr_ireturn (pc := 214) k_fm_joint_214 rfl rfl ?_
                              exact hv
                            · replace hv := hv.2 q
                              refine tr_iload_n (pc := 140) 2 k_fm_joint_140 rfl rfl ?_
                              refine tr_goto (pc := 141) 150 k_fm_joint_141 (by decide) ?_
                              refine tr_iast (pc := 150) k_fm_joint_150 (mvin (hsk.2.1 11 15 _ rfl) hv.1) ?_
                              replace hv := hv.2
                              refine tr_aload_n (pc := 151) 0 k_fm_joint_151 rfl rfl ?_
                              refine tr_getP (pc := 152) k_fm_joint_152 fl_fm_44 rfl (Eq.trans (Eq.trans (hP_setI) (hP_setI)) (hsk.1 10 17 _ rfl)) ?_
                              refine tr_aload_n (pc := 155) 0 k_fm_joint_155 rfl rfl ?_
                              refine tr_getIx (pc := 156) k_fm_joint_156 fl_fm_155 rfl (Eq.trans (hI_nk (by decide)) (hI_nk (by decide))) ?_
                              refine tr_iload_n (pc := 159) 3 k_fm_joint_159 rfl rfl ?_
                              refine tr_iast (pc := 160) k_fm_joint_160 (mvin (hsk.2.1 11 16 _ rfl) hv.1) ?_
                              replace hv := hv.2
                              refine tr_aload_n (pc := 161) 0 k_fm_joint_161 rfl rfl ?_
                              refine tr_getP (pc := 162) k_fm_joint_162 fl_fm_47 rfl (Eq.trans (Eq.trans (hP_setI) (Eq.trans (hP_setI) (hP_setI))) (hsk.1 10 18 _ rfl)) ?_
                              refine tr_aload_n (pc := 165) 0 k_fm_joint_165 rfl rfl ?_
                              refine tr_getIx (pc := 166) k_fm_joint_166 fl_fm_155 rfl (Eq.trans (hI_nk (by decide)) (Eq.trans (hI_nk (by decide)) (hI_nk (by decide)))) ?_
                              refine tr_iload (pc := 169) k_fm_joint_169 rfl ?_
                              refine tr_iast (pc := 171) k_fm_joint_171 (mvin (hsk.2.1 11 17 _ rfl) hv.1) ?_
                              replace hv := hv.2
                              refine tr_aload_n (pc := 172) 0 k_fm_joint_172 rfl rfl ?_
                              refine tr_getP (pc := 173) k_fm_joint_173 fl_fm_50 rfl (Eq.trans (Eq.trans (hP_setI) (Eq.trans (hP_setI) (Eq.trans (hP_setI) (hP_setI)))) (hsk.1 10 19 _ rfl)) ?_
                              refine tr_aload_n (pc := 176) 0 k_fm_joint_176 rfl rfl ?_
                              refine tr_getIx (pc := 177) k_fm_joint_177 fl_fm_155 rfl (Eq.trans (hI_nk (by decide)) (Eq.trans (hI_nk (by decide)) (Eq.trans (hI_nk (by decide)) (hI_nk (by decide))))) ?_
                              refine tr_iload (pc := 180) k_fm_joint_180 rfl ?_
                              refine tr_iast (pc := 182) k_fm_joint_182 (mvin (hsk.2.1 11 18 _ rfl) hv.1) ?_
                              replace hv := hv.2
                              refine tr_aload_n (pc := 183) 0 k_fm_joint_183 rfl rfl ?_
                              refine tr_getP (pc := 184) k_fm_joint_184 fl_fm_56 rfl (Eq.trans (Eq.trans (hP_setI) (Eq.trans (hP_setI) (Eq.trans (hP_setI) (Eq.trans (hP_setI) (hP_setI))))) (hsk.1 10 21 _ rfl)) ?_
                              refine tr_aload_n (pc := 187) 0 k_fm_joint_187 rfl rfl ?_
                              refine tr_getIx (pc := 188) k_fm_joint_188 fl_fm_155 rfl (Eq.trans (hI_nk (by decide)) (Eq.trans (hI_nk (by decide)) (Eq.trans (hI_nk (by decide)) (Eq.trans (hI_nk (by decide)) (hI_nk (by decide)))))) ?_
                              refine tr_bipush (pc := 191) (v := -9) k_fm_joint_191 (by decide) ?_
                              refine tr_iast (pc := 193) k_fm_joint_193 (mvin (hsk.2.1 11 20 _ rfl) hv.1) ?_
                              replace hv := hv.2
                              refine tr_aload_n (pc := 194) 0 k_fm_joint_194 rfl rfl ?_
                              refine tr_dup (pc := 195) k_fm_joint_195 rfl ?_
                              refine tr_getIx (pc := 196) k_fm_joint_196 fl_fm_155 rfl (Eq.trans (hI_nk (by decide)) (Eq.trans (hI_nk (by decide)) (Eq.trans (hI_nk (by decide)) (Eq.trans (hI_nk (by decide)) (Eq.trans (hI_nk (by decide)) (hI_nk (by decide))))))) ?_
                              refine tr_iconst (pc := 199) (v := 1) k_fm_joint_199 (by decide) ?_
                              refine tr_iadd (pc := 200) k_fm_joint_200 ?_
                              refine tr_putI (pc := 201) k_fm_joint_201 fl_fm_155 (Or.inl rfl) rfl ⟨rfl, rfl⟩ ?_
                              refine tr_aload_n (pc := 204) 0 k_fm_joint_204 rfl rfl ?_
                              refine tr_callV (pc := 205) (d' := d + 1) (mc' := 0) (ms' := 0) [] k_fm_joint_205 ca_fm_changes ml_fm_152 ii_fm_changes ⟨by decide, rfl⟩ pa_fm_changes (by omega) (by omega) (by omega) rfl (Nat.le_of_ble_eq_true rfl) (Nat.le_of_ble_eq_true rfl) (Qk := fun v h9 => mT g me_fm_joint (d + 2) 0 0 208 [some (vr 10 0), some (vi x1), some (vi x2), some (vi x3), some (vi x4), some (vi x5)] (v.toList ++ []) h9 _) ?_ (fun _ _ z => z)
                              show mT g me_fm_changes (d + 1) 0 0 0 [some (vr 10 0)] [] (setI (setI (setI (setI (setI (setI (setI h 11 14 ((hI h 10 0 3).toNatClampNeg) (-9 : Int32)) 11 15 ((hI h 10 0 3).toNatClampNeg) x2) 11 16 ((hI h 10 0 3).toNatClampNeg) x3) 11 17 ((hI h 10 0 3).toNatClampNeg) x4) 11 18 ((hI h 10 0 3).toNatClampNeg) x5) 11 20 ((hI h 10 0 3).toNatClampNeg) (-9 : Int32)) 10 0 3 ((hI h 10 0 3) + (1 : Int32))) _
                              refine tr_aload_n (pc := 0) 0 k_fm_changes_0 rfl rfl ?_
                              refine tr_iconst (pc := 1) (v := 0) k_fm_changes_1 (by decide) ?_
                              refine tr_putI (pc := 2) k_fm_changes_2 fl_fm_137 (Or.inl rfl) rfl ⟨rfl, rfl⟩ ?_
                              refine tr_return (pc := 5) k_fm_changes_5 rfl ?_
                              show mT g me_fm_joint (d + 2) 0 0 208 [some (vr 10 0), some (vi x1), some (vi x2), some (vi x3), some (vi x4), some (vi x5)] [] (setI (setI (setI (setI (setI (setI (setI (setI h 11 14 ((hI h 10 0 3).toNatClampNeg) (-9 : Int32)) 11 15 ((hI h 10 0 3).toNatClampNeg) x2) 11 16 ((hI h 10 0 3).toNatClampNeg) x3) 11 17 ((hI h 10 0 3).toNatClampNeg) x4) 11 18 ((hI h 10 0 3).toNatClampNeg) x5) 11 20 ((hI h 10 0 3).toNatClampNeg) (-9 : Int32)) 10 0 3 ((hI h 10 0 3) + (1 : Int32))) 10 0 55 (0 : Int32)) _
                              refine tr_aload_n (pc := 208) 0 k_fm_joint_208 rfl rfl ?_
                              refine tr_getIx (pc := 209) k_fm_joint_209 fl_fm_155 rfl (Eq.trans (hI_nf (by decide)) (hI_eq)) ?_
                              refine tr_iconst (pc := 212) (v := 1) k_fm_joint_212 (by decide) ?_
                              refine tr_isub (pc := 213) k_fm_joint_213 ?_
                              refine tr_ireturn (pc := 214) k_fm_joint_214 rfl rfl ?_
                              exact hv
                        · replace hv := hv.2 q
                          refine tr_aload_n (pc := 102) 0 k_fm_joint_102 rfl rfl ?_
                          refine tr_bipush (pc := 103) (v := -3) k_fm_joint_103 (by decide) ?_
                          have hT := hv
                          clear hv
                          refine tr_callV (pc := 105) (d' := d + 1) (mc' := 0) (ms' := 0) [vi (-3 : Int32)] k_fm_joint_105 ca_fm_refuse ml_fm_133 ii_fm_refuse ⟨by decide, rfl⟩ pa_fm_refuse (by omega) (by omega) (by omega) rfl (Nat.le_of_ble_eq_true rfl) (Nat.le_of_ble_eq_true rfl) hT (fun v h9 hv => ?_)
                          clear hT
                          obtain ⟨y36, rfl, hv⟩ := hv
                          obtain ⟨h35, eh⟩ : ∃ z, z = h9 := ⟨_, rfl⟩
                          subst eh
                          obtain ⟨hskh35, hv⟩ := hv
                          show mT g me_fm_joint (d + 2) 0 0 108 [some (vr 10 0), some (vi x1), some (vi x2), some (vi x3), some (vi x4), some (vi x5)] [vi y36] h35 _
                          refine tr_ireturn (pc := 108) k_fm_joint_108 rfl rfl ?_
                          exact hv
                    · replace hv := hv.2 q
                      refine tr_aload_n (pc := 82) 0 k_fm_joint_82 rfl rfl ?_
                      refine tr_bipush (pc := 83) (v := -6) k_fm_joint_83 (by decide) ?_
                      have hT := hv
                      clear hv
                      refine tr_callV (pc := 85) (d' := d + 1) (mc' := 0) (ms' := 0) [vi (-6 : Int32)] k_fm_joint_85 ca_fm_refuse ml_fm_133 ii_fm_refuse ⟨by decide, rfl⟩ pa_fm_refuse (by omega) (by omega) (by omega) rfl (Nat.le_of_ble_eq_true rfl) (Nat.le_of_ble_eq_true rfl) hT (fun v h9 hv => ?_)
                      clear hT
                      obtain ⟨y38, rfl, hv⟩ := hv
                      obtain ⟨h37, eh⟩ : ∃ z, z = h9 := ⟨_, rfl⟩
                      subst eh
                      obtain ⟨hskh37, hv⟩ := hv
                      show mT g me_fm_joint (d + 2) 0 0 88 [some (vr 10 0), some (vi x1), some (vi x2), some (vi x3), some (vi x4), some (vi x5)] [vi y38] h37 _
                      refine tr_ireturn (pc := 88) k_fm_joint_88 rfl rfl ?_
                      exact hv
            · replace hv := hv.2 q
              refine tr_aload_n (pc := 44) 0 k_fm_joint_44 rfl rfl ?_
              refine tr_bipush (pc := 45) (v := -4) k_fm_joint_45 (by decide) ?_
              have hT := hv
              clear hv
              refine tr_callV (pc := 47) (d' := d + 1) (mc' := 0) (ms' := 0) [vi (-4 : Int32)] k_fm_joint_47 ca_fm_refuse ml_fm_133 ii_fm_refuse ⟨by decide, rfl⟩ pa_fm_refuse (by omega) (by omega) (by omega) rfl (Nat.le_of_ble_eq_true rfl) (Nat.le_of_ble_eq_true rfl) hT (fun v h9 hv => ?_)
              clear hT
              obtain ⟨y40, rfl, hv⟩ := hv
              obtain ⟨h39, eh⟩ : ∃ z, z = h9 := ⟨_, rfl⟩
              subst eh
              obtain ⟨hskh39, hv⟩ := hv
              show mT g me_fm_joint (d + 2) 0 0 50 [some (vr 10 0), some (vi x1), some (vi x2), some (vi x3), some (vi x4), some (vi x5)] [vi y40] h39 _
              refine tr_ireturn (pc := 50) k_fm_joint_50 rfl rfl ?_
              exact hv
theorem v_fm_jet_0 {g : mG} {d : Nat} (x1 : Int32) (x2 : Int32) {h : mH} {Q : Option mV → mH → Prop} (hsk : mSK h) (hv : ((x1 < 0 → mT g me_fm_refuse (d + 2) 0 0 0 [some (vr 10 0), some (vi (-1 : Int32))] [] h (fun v h1 => ∃ y2, v = some (vi y2) ∧ mSK h1 ∧ Q (some (vi y2)) h1)) ∧ (¬ x1 < 0 → (((hI h 10 0 3) ≤ x1 → mT g me_fm_refuse (d + 2) 0 0 0 [some (vr 10 0), some (vi (-1 : Int32))] [] h (fun v h3 => ∃ y4, v = some (vi y4) ∧ mSK h3 ∧ Q (some (vi y4)) h3)) ∧ (¬ (hI h 10 0 3) ≤ x1 → (vp_in x1 30 ∧ (((hI h 11 20 x1.toNatClampNeg) < 0 → (((1 : Int32) ≤ x2 → (((60 : Int32) < x2 → mT g me_fm_refuse (d + 2) 0 0 0 [some (vr 10 0), some (vi (-6 : Int32))] [] h (fun v h5 => ∃ y6, v = some (vi y6) ∧ mSK h5 ∧ Q (some (vi y6)) h5)) ∧ (¬ (60 : Int32) < x2 → ((¬ (hI h 10 0 4) = (24 : Int32) → (vp_in (hI h 10 0 4) 24 ∧ (vp_in (hI h 10 0 4) 24 ∧ (vp_in (hI h 10 0 4) 24 ∧ (vp_in x1 30 ∧ Q (some (vi (((hI h 10 0 4) + (1 : Int32)) - (1 : Int32)))) (setI (setI (setI (setI (setI h 11 21 ((hI h 10 0 4).toNatClampNeg) x1) 11 22 ((hI h 10 0 4).toNatClampNeg) x2) 11 23 ((hI h 10 0 4).toNatClampNeg) (-1 : Int32)) 11 20 x1.toNatClampNeg (hI h 10 0 4)) 10 0 4 ((hI h 10 0 4) + (1 : Int32)))))))) ∧ ((hI h 10 0 4) = (24 : Int32) → mT g me_fm_refuse (d + 2) 0 0 0 [some (vr 10 0), some (vi (-6 : Int32))] [] h (fun v h7 => ∃ y8, v = some (vi y8) ∧ mSK h7 ∧ Q (some (vi y8)) h7)))))) ∧ (¬ (1 : Int32) ≤ x2 → mT g me_fm_refuse (d + 2) 0 0 0 [some (vr 10 0), some (vi (-4 : Int32))] [] h (fun v h9 => ∃ y10, v = some (vi y10) ∧ mSK h9 ∧ Q (some (vi y10)) h9)))) ∧ (¬ (hI h 11 20 x1.toNatClampNeg) < 0 → mT g me_fm_refuse (d + 2) 0 0 0 [some (vr 10 0), some (vi (-3 : Int32))] [] h (fun v h11 => ∃ y12, v = some (vi y12) ∧ mSK h11 ∧ Q (some (vi y12)) h11))))))))) : mT g me_fm_jet (d + 3) 0 0 0 [some (vr 10 0), some (vi x1), some (vi x2)] [] h Q := by
  refine tr_aload_n (pc := 0) 0 k_fm_jet_0 rfl rfl ?_
  refine tr_iload_n (pc := 1) 1 k_fm_jet_1 rfl rfl ?_
  refine tr_callV (pc := 2) (d' := d + 2) (mc' := 0) (ms' := 0) [vi x1] k_fm_jet_2 ca_fm_isJoint ml_fm_161 ii_fm_isJoint ⟨by decide, rfl⟩ pa_fm_isJoint (by omega) (by omega) (by omega) rfl (Nat.le_of_ble_eq_true rfl) (Nat.le_of_ble_eq_true rfl) (Qk := fun v h9 => mT g me_fm_jet (d + 3) 0 0 5 [some (vr 10 0), some (vi x1), some (vi x2)] (v.toList ++ []) h9 _) ?_ (fun _ _ z => z)
  show mT g me_fm_isJoint (d + 2) 0 0 0 [some (vr 10 0), some (vi x1)] [] h _
  refine tr_iload_n (pc := 0) 1 k_fm_isJoint_0 rfl rfl ?_
  refine tr_aload_n (pc := 1) 0 k_fm_isJoint_1 rfl rfl ?_
  refine tr_getIx (pc := 2) k_fm_isJoint_2 fl_fm_155 rfl rfl ?_
  refine tr_callS (pc := 5) (d' := d + 1) (mc' := 0) (ms' := 0) [vi x1, vi (hI h 10 0 3)] k_fm_isJoint_5 ca_fm_isIn ml_fm_144 is_fm_isIn pa_fm_isIn (by omega) (by omega) (by omega) rfl (Nat.le_of_ble_eq_true rfl) (Nat.le_of_ble_eq_true rfl) (Qk := fun v h9 => mT g me_fm_isJoint (d + 2) 0 0 8 [some (vr 10 0), some (vi x1)] (v.toList ++ []) h9 _) ?_ (fun _ _ z => z)
  show mT g me_fm_isIn (d + 1) 0 0 0 [some (vi x1), some (vi (hI h 10 0 3))] [] h _
  refine tr_iload_n (pc := 0) 0 k_fm_isIn_0 rfl rfl ?_
  refine tr_if_lt (pc := 1) 13 k_fm_isIn_1 (by decide) (fun q => ?_) (fun q => ?_)
  · replace hv := hv.1 q
    refine tr_iconst (pc := 13) (v := 0) k_fm_isIn_13 (by decide) ?_
    refine tr_ireturn (pc := 14) k_fm_isIn_14 rfl rfl ?_
    show mT g me_fm_isJoint (d + 2) 0 0 8 [some (vr 10 0), some (vi x1)] [vi (0 : Int32)] h _
    refine tr_ireturn (pc := 8) k_fm_isJoint_8 rfl rfl ?_
    show mT g me_fm_jet (d + 3) 0 0 5 [some (vr 10 0), some (vi x1), some (vi x2)] [vi (0 : Int32)] h _
    refine tr_if_ne (pc := 5) 14 k_fm_jet_5 (by decide) (fun q => absurd q (by decide)) (fun _ => ?_)
    refine tr_aload_n (pc := 8) 0 k_fm_jet_8 rfl rfl ?_
    refine tr_iconst (pc := 9) (v := -1) k_fm_jet_9 (by decide) ?_
    have hT := hv
    clear hv
    refine tr_callV (pc := 10) (d' := d + 2) (mc' := 0) (ms' := 0) [vi (-1 : Int32)] k_fm_jet_10 ca_fm_refuse ml_fm_133 ii_fm_refuse ⟨by decide, rfl⟩ pa_fm_refuse (by omega) (by omega) (by omega) rfl (Nat.le_of_ble_eq_true rfl) (Nat.le_of_ble_eq_true rfl) hT (fun v h9 hv => ?_)
    clear hT
    obtain ⟨y2, rfl, hv⟩ := hv
    obtain ⟨h1, eh⟩ : ∃ z, z = h9 := ⟨_, rfl⟩
    subst eh
    obtain ⟨hskh1, hv⟩ := hv
    show mT g me_fm_jet (d + 3) 0 0 13 [some (vr 10 0), some (vi x1), some (vi x2)] [vi y2] h1 _
    refine tr_ireturn (pc := 13) k_fm_jet_13 rfl rfl ?_
    exact hv
  · replace hv := hv.2 q
    refine tr_iload_n (pc := 4) 0 k_fm_isIn_4 rfl rfl ?_
    refine tr_iload_n (pc := 5) 1 k_fm_isIn_5 rfl rfl ?_
    refine tr_icmp_ge (pc := 6) 13 k_fm_isIn_6 (by decide) (fun q => ?_) (fun q => ?_)
    · replace hv := hv.1 q
      refine tr_iconst (pc := 13) (v := 0) k_fm_isIn_13 (by decide) ?_
      refine tr_ireturn (pc := 14) k_fm_isIn_14 rfl rfl ?_
      show mT g me_fm_isJoint (d + 2) 0 0 8 [some (vr 10 0), some (vi x1)] [vi (0 : Int32)] h _
      refine tr_ireturn (pc := 8) k_fm_isJoint_8 rfl rfl ?_
      show mT g me_fm_jet (d + 3) 0 0 5 [some (vr 10 0), some (vi x1), some (vi x2)] [vi (0 : Int32)] h _
      refine tr_if_ne (pc := 5) 14 k_fm_jet_5 (by decide) (fun q => absurd q (by decide)) (fun _ => ?_)
      refine tr_aload_n (pc := 8) 0 k_fm_jet_8 rfl rfl ?_
      refine tr_iconst (pc := 9) (v := -1) k_fm_jet_9 (by decide) ?_
      have hT := hv
      clear hv
      refine tr_callV (pc := 10) (d' := d + 2) (mc' := 0) (ms' := 0) [vi (-1 : Int32)] k_fm_jet_10 ca_fm_refuse ml_fm_133 ii_fm_refuse ⟨by decide, rfl⟩ pa_fm_refuse (by omega) (by omega) (by omega) rfl (Nat.le_of_ble_eq_true rfl) (Nat.le_of_ble_eq_true rfl) hT (fun v h9 hv => ?_)
      clear hT
      obtain ⟨y4, rfl, hv⟩ := hv
      obtain ⟨h3, eh⟩ : ∃ z, z = h9 := ⟨_, rfl⟩
      subst eh
      obtain ⟨hskh3, hv⟩ := hv
      show mT g me_fm_jet (d + 3) 0 0 13 [some (vr 10 0), some (vi x1), some (vi x2)] [vi y4] h3 _
      refine tr_ireturn (pc := 13) k_fm_jet_13 rfl rfl ?_
      exact hv
    · replace hv := hv.2 q
      refine tr_iconst (pc := 9) (v := 1) k_fm_isIn_9 (by decide) ?_
      refine tr_goto (pc := 10) 14 k_fm_isIn_10 (by decide) ?_
      refine tr_ireturn (pc := 14) k_fm_isIn_14 rfl rfl ?_
      show mT g me_fm_isJoint (d + 2) 0 0 8 [some (vr 10 0), some (vi x1)] [vi (1 : Int32)] h _
      refine tr_ireturn (pc := 8) k_fm_isJoint_8 rfl rfl ?_
      show mT g me_fm_jet (d + 3) 0 0 5 [some (vr 10 0), some (vi x1), some (vi x2)] [vi (1 : Int32)] h _
      refine tr_if_ne (pc := 5) 14 k_fm_jet_5 (by decide) (fun _ => ?_) (fun q => absurd q (by decide))
      refine tr_aload_n (pc := 14) 0 k_fm_jet_14 rfl rfl ?_
      refine tr_getP (pc := 15) k_fm_jet_15 fl_fm_56 rfl (Eq.trans rfl (hsk.1 10 21 _ rfl)) ?_
      refine tr_iload_n (pc := 18) 1 k_fm_jet_18 rfl rfl ?_
      refine tr_ialdx (pc := 19) k_fm_jet_19 (mvin (hsk.2.1 11 20 _ rfl) hv.1) rfl ?_
      replace hv := hv.2
      refine tr_if_lt (pc := 20) 30 k_fm_jet_20 (by decide) (fun q => ?_) (fun q => ?_)
      · replace hv := hv.1 q
        refine tr_iload_n (pc := 30) 2 k_fm_jet_30 rfl rfl ?_
        refine tr_iconst (pc := 31) (v := 1) k_fm_jet_31 (by decide) ?_
        refine tr_icmp_ge (pc := 32) 42 k_fm_jet_32 (by decide) (fun q => ?_) (fun q => ?_)
        · replace hv := hv.1 q
          refine tr_iload_n (pc := 42) 2 k_fm_jet_42 rfl rfl ?_
          refine tr_bipush (pc := 43) (v := 60) k_fm_jet_43 (by decide) ?_
          refine tr_icmp_gt (pc := 45) 57 k_fm_jet_45 (by decide) (fun q => ?_) (fun q => ?_)
          · replace hv := hv.1 q
            refine tr_aload_n (pc := 57) 0 k_fm_jet_57 rfl rfl ?_
            refine tr_bipush (pc := 58) (v := -6) k_fm_jet_58 (by decide) ?_
            have hT := hv
            clear hv
            refine tr_callV (pc := 60) (d' := d + 2) (mc' := 0) (ms' := 0) [vi (-6 : Int32)] k_fm_jet_60 ca_fm_refuse ml_fm_133 ii_fm_refuse ⟨by decide, rfl⟩ pa_fm_refuse (by omega) (by omega) (by omega) rfl (Nat.le_of_ble_eq_true rfl) (Nat.le_of_ble_eq_true rfl) hT (fun v h9 hv => ?_)
            clear hT
            obtain ⟨y6, rfl, hv⟩ := hv
            obtain ⟨h5, eh⟩ : ∃ z, z = h9 := ⟨_, rfl⟩
            subst eh
            obtain ⟨hskh5, hv⟩ := hv
            show mT g me_fm_jet (d + 3) 0 0 63 [some (vr 10 0), some (vi x1), some (vi x2)] [vi y6] h5 _
            refine tr_ireturn (pc := 63) k_fm_jet_63 rfl rfl ?_
            exact hv
          · replace hv := hv.2 q
            refine tr_aload_n (pc := 48) 0 k_fm_jet_48 rfl rfl ?_
            refine tr_getIx (pc := 49) k_fm_jet_49 fl_fm_158 rfl rfl ?_
            refine tr_bipush (pc := 52) (v := 24) k_fm_jet_52 (by decide) ?_
            refine tr_icmp_ne (pc := 54) 64 k_fm_jet_54 (by decide) (fun q => ?_) (fun q => ?_)
            · replace hv := hv.1 q
              refine tr_aload_n (pc := 64) 0 k_fm_jet_64 rfl rfl ?_
              refine tr_getP (pc := 65) k_fm_jet_65 fl_fm_63 rfl (Eq.trans rfl (hsk.1 10 23 _ rfl)) ?_
              refine tr_aload_n (pc := 68) 0 k_fm_jet_68 rfl rfl ?_
              refine tr_getIx (pc := 69) k_fm_jet_69 fl_fm_158 rfl rfl ?_
              refine tr_iload_n (pc := 72) 1 k_fm_jet_72 rfl rfl ?_
              refine tr_iast (pc := 73) k_fm_jet_73 (mvin (hsk.2.1 11 21 _ rfl) hv.1) ?_
              replace hv := hv.2
              refine tr_aload_n (pc := 74) 0 k_fm_jet_74 rfl rfl ?_
              refine tr_getP (pc := 75) k_fm_jet_75 fl_fm_66 rfl (Eq.trans (hP_setI) (hsk.1 10 24 _ rfl)) ?_
              refine tr_aload_n (pc := 78) 0 k_fm_jet_78 rfl rfl ?_
              refine tr_getIx (pc := 79) k_fm_jet_79 fl_fm_158 rfl (hI_nk (by decide)) ?_
              refine tr_iload_n (pc := 82) 2 k_fm_jet_82 rfl rfl ?_
              refine tr_iast (pc := 83) k_fm_jet_83 (mvin (hsk.2.1 11 22 _ rfl) hv.1) ?_
              replace hv := hv.2
              refine tr_aload_n (pc := 84) 0 k_fm_jet_84 rfl rfl ?_
              refine tr_getP (pc := 85) k_fm_jet_85 fl_fm_69 rfl (Eq.trans (Eq.trans (hP_setI) (hP_setI)) (hsk.1 10 25 _ rfl)) ?_
              refine tr_aload_n (pc := 88) 0 k_fm_jet_88 rfl rfl ?_
              refine tr_getIx (pc := 89) k_fm_jet_89 fl_fm_158 rfl (Eq.trans (hI_nk (by decide)) (hI_nk (by decide))) ?_
              refine tr_iconst (pc := 92) (v := -1) k_fm_jet_92 (by decide) ?_
              refine tr_iast (pc := 93) k_fm_jet_93 (mvin (hsk.2.1 11 23 _ rfl) hv.1) ?_
              replace hv := hv.2
              refine tr_aload_n (pc := 94) 0 k_fm_jet_94 rfl rfl ?_
              refine tr_getP (pc := 95) k_fm_jet_95 fl_fm_56 rfl (Eq.trans (Eq.trans (hP_setI) (Eq.trans (hP_setI) (hP_setI))) (hsk.1 10 21 _ rfl)) ?_
              refine tr_iload_n (pc := 98) 1 k_fm_jet_98 rfl rfl ?_
              refine tr_aload_n (pc := 99) 0 k_fm_jet_99 rfl rfl ?_
              refine tr_getIx (pc := 100) k_fm_jet_100 fl_fm_158 rfl (Eq.trans (hI_nk (by decide)) (Eq.trans (hI_nk (by decide)) (hI_nk (by decide)))) ?_
              refine tr_iast (pc := 103) k_fm_jet_103 (mvin (hsk.2.1 11 20 _ rfl) hv.1) ?_
              replace hv := hv.2
              refine tr_aload_n (pc := 104) 0 k_fm_jet_104 rfl rfl ?_
              refine tr_dup (pc := 105) k_fm_jet_105 rfl ?_
              refine tr_getIx (pc := 106) k_fm_jet_106 fl_fm_158 rfl (Eq.trans (hI_nk (by decide)) (Eq.trans (hI_nk (by decide)) (Eq.trans (hI_nk (by decide)) (hI_nk (by decide))))) ?_
              refine tr_iconst (pc := 109) (v := 1) k_fm_jet_109 (by decide) ?_
              refine tr_iadd (pc := 110) k_fm_jet_110 ?_
              refine tr_putI (pc := 111) k_fm_jet_111 fl_fm_158 (Or.inl rfl) rfl ⟨rfl, rfl⟩ ?_
              refine tr_aload_n (pc := 114) 0 k_fm_jet_114 rfl rfl ?_
              refine tr_getIx (pc := 115) k_fm_jet_115 fl_fm_158 rfl (hI_eq) ?_
              refine tr_iconst (pc := 118) (v := 1) k_fm_jet_118 (by decide) ?_
              refine tr_isub (pc := 119) k_fm_jet_119 ?_
              refine tr_ireturn (pc := 120) k_fm_jet_120 rfl rfl ?_
              exact hv
            · replace hv := hv.2 q
              refine tr_aload_n (pc := 57) 0 k_fm_jet_57 rfl rfl ?_
              refine tr_bipush (pc := 58) (v := -6) k_fm_jet_58 (by decide) ?_
              have hT := hv
              clear hv
              refine tr_callV (pc := 60) (d' := d + 2) (mc' := 0) (ms' := 0) [vi (-6 : Int32)] k_fm_jet_60 ca_fm_refuse ml_fm_133 ii_fm_refuse ⟨by decide, rfl⟩ pa_fm_refuse (by omega) (by omega) (by omega) rfl (Nat.le_of_ble_eq_true rfl) (Nat.le_of_ble_eq_true rfl) hT (fun v h9 hv => ?_)
              clear hT
              obtain ⟨y8, rfl, hv⟩ := hv
              obtain ⟨h7, eh⟩ : ∃ z, z = h9 := ⟨_, rfl⟩
              subst eh
              obtain ⟨hskh7, hv⟩ := hv
              show mT g me_fm_jet (d + 3) 0 0 63 [some (vr 10 0), some (vi x1), some (vi x2)] [vi y8] h7 _
              refine tr_ireturn (pc := 63) k_fm_jet_63 rfl rfl ?_
              exact hv
        · replace hv := hv.2 q
          refine tr_aload_n (pc := 35) 0 k_fm_jet_35 rfl rfl ?_
          refine tr_bipush (pc := 36) (v := -4) k_fm_jet_36 (by decide) ?_
          have hT := hv
          clear hv
          refine tr_callV (pc := 38) (d' := d + 2) (mc' := 0) (ms' := 0) [vi (-4 : Int32)] k_fm_jet_38 ca_fm_refuse ml_fm_133 ii_fm_refuse ⟨by decide, rfl⟩ pa_fm_refuse (by omega) (by omega) (by omega) rfl (Nat.le_of_ble_eq_true rfl) (Nat.le_of_ble_eq_true rfl) hT (fun v h9 hv => ?_)
          clear hT
          obtain ⟨y10, rfl, hv⟩ := hv
          obtain ⟨h9, eh⟩ : ∃ z, z = h9 := ⟨_, rfl⟩
          subst eh
          obtain ⟨hskh9, hv⟩ := hv
          show mT g me_fm_jet (d + 3) 0 0 41 [some (vr 10 0), some (vi x1), some (vi x2)] [vi y10] h9 _
          refine tr_ireturn (pc := 41) k_fm_jet_41 rfl rfl ?_
          exact hv
      · replace hv := hv.2 q
        refine tr_aload_n (pc := 23) 0 k_fm_jet_23 rfl rfl ?_
        refine tr_bipush (pc := 24) (v := -3) k_fm_jet_24 (by decide) ?_
        have hT := hv
        clear hv
        refine tr_callV (pc := 26) (d' := d + 2) (mc' := 0) (ms' := 0) [vi (-3 : Int32)] k_fm_jet_26 ca_fm_refuse ml_fm_133 ii_fm_refuse ⟨by decide, rfl⟩ pa_fm_refuse (by omega) (by omega) (by omega) rfl (Nat.le_of_ble_eq_true rfl) (Nat.le_of_ble_eq_true rfl) hT (fun v h9 hv => ?_)
        clear hT
        obtain ⟨y12, rfl, hv⟩ := hv
        obtain ⟨h11, eh⟩ : ∃ z, z = h9 := ⟨_, rfl⟩
        subst eh
        obtain ⟨hskh11, hv⟩ := hv
        show mT g me_fm_jet (d + 3) 0 0 29 [some (vr 10 0), some (vi x1), some (vi x2)] [vi y12] h11 _
        refine tr_ireturn (pc := 29) k_fm_jet_29 rfl rfl ?_
        exact hv
theorem v_fm_play_0 {g : mG} {d : Nat} (x1 : Int32) (x2 : Int32) {h : mH} {Q : Option mV → mH → Prop} (hsk : mSK h) (hv : ((x1 < 0 → mT g me_fm_refuse (d + 2) 0 0 0 [some (vr 10 0), some (vi (-1 : Int32))] [] h (fun v h1 => ∃ y2, v = some (vi y2) ∧ mSK h1 ∧ Q (some (vi y2)) h1)) ∧ (¬ x1 < 0 → (((hI h 10 0 4) ≤ x1 → mT g me_fm_refuse (d + 2) 0 0 0 [some (vr 10 0), some (vi (-1 : Int32))] [] h (fun v h3 => ∃ y4, v = some (vi y4) ∧ mSK h3 ∧ Q (some (vi y4)) h3)) ∧ (¬ (hI h 10 0 4) ≤ x1 → ((x2 = 0 → (vp_in x1 24 ∧ ((¬ (hI h 12 1 x1.toNatClampNeg) = x2 → (vp_in x1 24 ∧ vp_nar .boolean x2 = x2 ∧ Q (some (vi (1 : Int32))) (setI (setI h 12 1 x1.toNatClampNeg x2) 10 0 55 (0 : Int32)))) ∧ ((hI h 12 1 x1.toNatClampNeg) = x2 → Q (some (vi (0 : Int32))) h)))) ∧ (¬ x2 = 0 → (vp_in x1 24 ∧ mT g me_fm_isCut (d + 2) 0 0 0 [some (vr 10 0), some (vi (hI h 11 21 x1.toNatClampNeg)), none, none] [] h (fun v h5 => ∃ y6, v = some (vi y6) ∧ mSK h5 ∧ ((y6 = 0 → (vp_in x1 24 ∧ ((¬ (hI h5 12 1 x1.toNatClampNeg) = x2 → (vp_in x1 24 ∧ vp_nar .boolean x2 = x2 ∧ Q (some (vi (1 : Int32))) (setI (setI h5 12 1 x1.toNatClampNeg x2) 10 0 55 (0 : Int32)))) ∧ ((hI h5 12 1 x1.toNatClampNeg) = x2 → Q (some (vi (0 : Int32))) h5)))) ∧ (¬ y6 = 0 → mT g me_fm_refuse (d + 2) 0 0 0 [some (vr 10 0), some (vi (-3 : Int32))] [] h5 (fun v h7 => ∃ y8, v = some (vi y8) ∧ mSK h7 ∧ Q (some (vi y8)) h7)))))))))))) : mT g me_fm_play (d + 3) 0 0 0 [some (vr 10 0), some (vi x1), some (vi x2)] [] h Q := by
  refine tr_aload_n (pc := 0) 0 k_fm_play_0 rfl rfl ?_
  refine tr_iload_n (pc := 1) 1 k_fm_play_1 rfl rfl ?_
  refine tr_callV (pc := 2) (d' := d + 2) (mc' := 0) (ms' := 0) [vi x1] k_fm_play_2 ca_fm_isJet ml_fm_165 ii_fm_isJet ⟨by decide, rfl⟩ pa_fm_isJet (by omega) (by omega) (by omega) rfl (Nat.le_of_ble_eq_true rfl) (Nat.le_of_ble_eq_true rfl) (Qk := fun v h9 => mT g me_fm_play (d + 3) 0 0 5 [some (vr 10 0), some (vi x1), some (vi x2)] (v.toList ++ []) h9 _) ?_ (fun _ _ z => z)
  show mT g me_fm_isJet (d + 2) 0 0 0 [some (vr 10 0), some (vi x1)] [] h _
  refine tr_iload_n (pc := 0) 1 k_fm_isJet_0 rfl rfl ?_
  refine tr_aload_n (pc := 1) 0 k_fm_isJet_1 rfl rfl ?_
  refine tr_getIx (pc := 2) k_fm_isJet_2 fl_fm_158 rfl rfl ?_
  refine tr_callS (pc := 5) (d' := d + 1) (mc' := 0) (ms' := 0) [vi x1, vi (hI h 10 0 4)] k_fm_isJet_5 ca_fm_isIn ml_fm_144 is_fm_isIn pa_fm_isIn (by omega) (by omega) (by omega) rfl (Nat.le_of_ble_eq_true rfl) (Nat.le_of_ble_eq_true rfl) (Qk := fun v h9 => mT g me_fm_isJet (d + 2) 0 0 8 [some (vr 10 0), some (vi x1)] (v.toList ++ []) h9 _) ?_ (fun _ _ z => z)
  show mT g me_fm_isIn (d + 1) 0 0 0 [some (vi x1), some (vi (hI h 10 0 4))] [] h _
  refine tr_iload_n (pc := 0) 0 k_fm_isIn_0 rfl rfl ?_
  refine tr_if_lt (pc := 1) 13 k_fm_isIn_1 (by decide) (fun q => ?_) (fun q => ?_)
  · replace hv := hv.1 q
    refine tr_iconst (pc := 13) (v := 0) k_fm_isIn_13 (by decide) ?_
    refine tr_ireturn (pc := 14) k_fm_isIn_14 rfl rfl ?_
    show mT g me_fm_isJet (d + 2) 0 0 8 [some (vr 10 0), some (vi x1)] [vi (0 : Int32)] h _
    refine tr_ireturn (pc := 8) k_fm_isJet_8 rfl rfl ?_
    show mT g me_fm_play (d + 3) 0 0 5 [some (vr 10 0), some (vi x1), some (vi x2)] [vi (0 : Int32)] h _
    refine tr_if_ne (pc := 5) 14 k_fm_play_5 (by decide) (fun q => absurd q (by decide)) (fun _ => ?_)
    refine tr_aload_n (pc := 8) 0 k_fm_play_8 rfl rfl ?_
    refine tr_iconst (pc := 9) (v := -1) k_fm_play_9 (by decide) ?_
    have hT := hv
    clear hv
    refine tr_callV (pc := 10) (d' := d + 2) (mc' := 0) (ms' := 0) [vi (-1 : Int32)] k_fm_play_10 ca_fm_refuse ml_fm_133 ii_fm_refuse ⟨by decide, rfl⟩ pa_fm_refuse (by omega) (by omega) (by omega) rfl (Nat.le_of_ble_eq_true rfl) (Nat.le_of_ble_eq_true rfl) hT (fun v h9 hv => ?_)
    clear hT
    obtain ⟨y2, rfl, hv⟩ := hv
    obtain ⟨h1, eh⟩ : ∃ z, z = h9 := ⟨_, rfl⟩
    subst eh
    obtain ⟨hskh1, hv⟩ := hv
    show mT g me_fm_play (d + 3) 0 0 13 [some (vr 10 0), some (vi x1), some (vi x2)] [vi y2] h1 _
    refine tr_ireturn (pc := 13) k_fm_play_13 rfl rfl ?_
    exact hv
  · replace hv := hv.2 q
    refine tr_iload_n (pc := 4) 0 k_fm_isIn_4 rfl rfl ?_
    refine tr_iload_n (pc := 5) 1 k_fm_isIn_5 rfl rfl ?_
    refine tr_icmp_ge (pc := 6) 13 k_fm_isIn_6 (by decide) (fun q => ?_) (fun q => ?_)
    · replace hv := hv.1 q
      refine tr_iconst (pc := 13) (v := 0) k_fm_isIn_13 (by decide) ?_
      refine tr_ireturn (pc := 14) k_fm_isIn_14 rfl rfl ?_
      show mT g me_fm_isJet (d + 2) 0 0 8 [some (vr 10 0), some (vi x1)] [vi (0 : Int32)] h _
      refine tr_ireturn (pc := 8) k_fm_isJet_8 rfl rfl ?_
      show mT g me_fm_play (d + 3) 0 0 5 [some (vr 10 0), some (vi x1), some (vi x2)] [vi (0 : Int32)] h _
      refine tr_if_ne (pc := 5) 14 k_fm_play_5 (by decide) (fun q => absurd q (by decide)) (fun _ => ?_)
      refine tr_aload_n (pc := 8) 0 k_fm_play_8 rfl rfl ?_
      refine tr_iconst (pc := 9) (v := -1) k_fm_play_9 (by decide) ?_
      have hT := hv
      clear hv
      refine tr_callV (pc := 10) (d' := d + 2) (mc' := 0) (ms' := 0) [vi (-1 : Int32)] k_fm_play_10 ca_fm_refuse ml_fm_133 ii_fm_refuse ⟨by decide, rfl⟩ pa_fm_refuse (by omega) (by omega) (by omega) rfl (Nat.le_of_ble_eq_true rfl) (Nat.le_of_ble_eq_true rfl) hT (fun v h9 hv => ?_)
      clear hT
      obtain ⟨y4, rfl, hv⟩ := hv
      obtain ⟨h3, eh⟩ : ∃ z, z = h9 := ⟨_, rfl⟩
      subst eh
      obtain ⟨hskh3, hv⟩ := hv
      show mT g me_fm_play (d + 3) 0 0 13 [some (vr 10 0), some (vi x1), some (vi x2)] [vi y4] h3 _
      refine tr_ireturn (pc := 13) k_fm_play_13 rfl rfl ?_
      exact hv
    · replace hv := hv.2 q
      refine tr_iconst (pc := 9) (v := 1) k_fm_isIn_9 (by decide) ?_
      refine tr_goto (pc := 10) 14 k_fm_isIn_10 (by decide) ?_
      refine tr_ireturn (pc := 14) k_fm_isIn_14 rfl rfl ?_
      show mT g me_fm_isJet (d + 2) 0 0 8 [some (vr 10 0), some (vi x1)] [vi (1 : Int32)] h _
      refine tr_ireturn (pc := 8) k_fm_isJet_8 rfl rfl ?_
      show mT g me_fm_play (d + 3) 0 0 5 [some (vr 10 0), some (vi x1), some (vi x2)] [vi (1 : Int32)] h _
      refine tr_if_ne (pc := 5) 14 k_fm_play_5 (by decide) (fun _ => ?_) (fun q => absurd q (by decide))
      refine tr_iload_n (pc := 14) 2 k_fm_play_14 rfl rfl ?_
      refine tr_if_eq (pc := 15) 38 k_fm_play_15 (by decide) (fun q => ?_) (fun q => ?_)
      · replace hv := hv.1 q
        refine tr_aload_n (pc := 38) 0 k_fm_play_38 rfl rfl ?_
        refine tr_getP (pc := 39) k_fm_play_39 fl_fm_72 rfl (Eq.trans rfl (hsk.1 10 26 _ rfl)) ?_
        refine tr_iload_n (pc := 42) 1 k_fm_play_42 rfl rfl ?_
        refine tr_zaldx (pc := 43) k_fm_play_43 (mvin (hsk.2.1 12 1 _ rfl) hv.1) rfl ?_
        replace hv := hv.2
        refine tr_iload_n (pc := 44) 2 k_fm_play_44 rfl rfl ?_
        refine tr_icmp_ne (pc := 45) 50 k_fm_play_45 (by decide) (fun q => ?_) (fun q => ?_)
        · replace hv := hv.1 q
          refine tr_aload_n (pc := 50) 0 k_fm_play_50 rfl rfl ?_
          refine tr_getP (pc := 51) k_fm_play_51 fl_fm_72 rfl (Eq.trans rfl (hsk.1 10 26 _ rfl)) ?_
          refine tr_iload_n (pc := 54) 1 k_fm_play_54 rfl rfl ?_
          refine tr_iload_n (pc := 55) 2 k_fm_play_55 rfl rfl ?_
          refine tr_zast (pc := 56) k_fm_play_56 (mvin (hsk.2.1 12 1 _ rfl) hv.1) hv.2.1 ?_
          replace hv := hv.2.2
          refine tr_aload_n (pc := 57) 0 k_fm_play_57 rfl rfl ?_
          refine tr_callV (pc := 58) (d' := d + 2) (mc' := 0) (ms' := 0) [] k_fm_play_58 ca_fm_changes ml_fm_152 ii_fm_changes ⟨by decide, rfl⟩ pa_fm_changes (by omega) (by omega) (by omega) rfl (Nat.le_of_ble_eq_true rfl) (Nat.le_of_ble_eq_true rfl) (Qk := fun v h9 => mT g me_fm_play (d + 3) 0 0 61 [some (vr 10 0), some (vi x1), some (vi x2)] (v.toList ++ []) h9 _) ?_ (fun _ _ z => z)
          show mT g me_fm_changes (d + 2) 0 0 0 [some (vr 10 0)] [] (setI h 12 1 x1.toNatClampNeg x2) _
          refine tr_aload_n (pc := 0) 0 k_fm_changes_0 rfl rfl ?_
          refine tr_iconst (pc := 1) (v := 0) k_fm_changes_1 (by decide) ?_
          refine tr_putI (pc := 2) k_fm_changes_2 fl_fm_137 (Or.inl rfl) rfl ⟨rfl, rfl⟩ ?_
          refine tr_return (pc := 5) k_fm_changes_5 rfl ?_
          show mT g me_fm_play (d + 3) 0 0 61 [some (vr 10 0), some (vi x1), some (vi x2)] [] (setI (setI h 12 1 x1.toNatClampNeg x2) 10 0 55 (0 : Int32)) _
          refine tr_iconst (pc := 61) (v := 1) k_fm_play_61 (by decide) ?_
          refine tr_ireturn (pc := 62) k_fm_play_62 rfl rfl ?_
          exact hv
        · replace hv := hv.2 q
          refine tr_iconst (pc := 48) (v := 0) k_fm_play_48 (by decide) ?_
          refine tr_ireturn (pc := 49) k_fm_play_49 rfl rfl ?_
          exact hv
      · replace hv := hv.2 q
        refine tr_aload_n (pc := 18) 0 k_fm_play_18 rfl rfl ?_
        refine tr_aload_n (pc := 19) 0 k_fm_play_19 rfl rfl ?_
        refine tr_getP (pc := 20) k_fm_play_20 fl_fm_63 rfl (Eq.trans rfl (hsk.1 10 23 _ rfl)) ?_
        refine tr_iload_n (pc := 23) 1 k_fm_play_23 rfl rfl ?_
        refine tr_ialdx (pc := 24) k_fm_play_24 (mvin (hsk.2.1 11 21 _ rfl) hv.1) rfl ?_
        replace hv := hv.2
        have hT := hv
        clear hv
        refine tr_callV (pc := 25) (d' := d + 2) (mc' := 0) (ms' := 0) [vi (hI h 11 21 x1.toNatClampNeg)] k_fm_play_25 ca_fm_isCut ml_fm_168 ii_fm_isCut ⟨by decide, rfl⟩ pa_fm_isCut (by omega) (by omega) (by omega) rfl (Nat.le_of_ble_eq_true rfl) (Nat.le_of_ble_eq_true rfl) hT (fun v h9 hv => ?_)
        clear hT
        obtain ⟨y6, rfl, hv⟩ := hv
        obtain ⟨h5, eh⟩ : ∃ z, z = h9 := ⟨_, rfl⟩
        subst eh
        obtain ⟨hskh5, hv⟩ := hv
        show mT g me_fm_play (d + 3) 0 0 28 [some (vr 10 0), some (vi x1), some (vi x2)] [vi y6] h5 _
        refine tr_if_eq (pc := 28) 38 k_fm_play_28 (by decide) (fun q => ?_) (fun q => ?_)
        · replace hv := hv.1 q
          refine tr_aload_n (pc := 38) 0 k_fm_play_38 rfl rfl ?_
          refine tr_getP (pc := 39) k_fm_play_39 fl_fm_72 rfl (Eq.trans rfl (hskh5.1 10 26 _ rfl)) ?_
          refine tr_iload_n (pc := 42) 1 k_fm_play_42 rfl rfl ?_
          refine tr_zaldx (pc := 43) k_fm_play_43 (mvin (hskh5.2.1 12 1 _ rfl) hv.1) rfl ?_
          replace hv := hv.2
          refine tr_iload_n (pc := 44) 2 k_fm_play_44 rfl rfl ?_
          refine tr_icmp_ne (pc := 45) 50 k_fm_play_45 (by decide) (fun q => ?_) (fun q => ?_)
          · replace hv := hv.1 q
            refine tr_aload_n (pc := 50) 0 k_fm_play_50 rfl rfl ?_
            refine tr_getP (pc := 51) k_fm_play_51 fl_fm_72 rfl (Eq.trans rfl (hskh5.1 10 26 _ rfl)) ?_
            refine tr_iload_n (pc := 54) 1 k_fm_play_54 rfl rfl ?_
            refine tr_iload_n (pc := 55) 2 k_fm_play_55 rfl rfl ?_
            refine tr_zast (pc := 56) k_fm_play_56 (mvin (hskh5.2.1 12 1 _ rfl) hv.1) hv.2.1 ?_
            replace hv := hv.2.2
            refine tr_aload_n (pc := 57) 0 k_fm_play_57 rfl rfl ?_
            refine tr_callV (pc := 58) (d' := d + 2) (mc' := 0) (ms' := 0) [] k_fm_play_58 ca_fm_changes ml_fm_152 ii_fm_changes ⟨by decide, rfl⟩ pa_fm_changes (by omega) (by omega) (by omega) rfl (Nat.le_of_ble_eq_true rfl) (Nat.le_of_ble_eq_true rfl) (Qk := fun v h9 => mT g me_fm_play (d + 3) 0 0 61 [some (vr 10 0), some (vi x1), some (vi x2)] (v.toList ++ []) h9 _) ?_ (fun _ _ z => z)
            show mT g me_fm_changes (d + 2) 0 0 0 [some (vr 10 0)] [] (setI h5 12 1 x1.toNatClampNeg x2) _
            refine tr_aload_n (pc := 0) 0 k_fm_changes_0 rfl rfl ?_
            refine tr_iconst (pc := 1) (v := 0) k_fm_changes_1 (by decide) ?_
            refine tr_putI (pc := 2) k_fm_changes_2 fl_fm_137 (Or.inl rfl) rfl ⟨rfl, rfl⟩ ?_
            refine tr_return (pc := 5) k_fm_changes_5 rfl ?_
            show mT g me_fm_play (d + 3) 0 0 61 [some (vr 10 0), some (vi x1), some (vi x2)] [] (setI (setI h5 12 1 x1.toNatClampNeg x2) 10 0 55 (0 : Int32)) _
            refine tr_iconst (pc := 61) (v := 1) k_fm_play_61 (by decide) ?_
            refine tr_ireturn (pc := 62) k_fm_play_62 rfl rfl ?_
            exact hv
          · replace hv := hv.2 q
            refine tr_iconst (pc := 48) (v := 0) k_fm_play_48 (by decide) ?_
            refine tr_ireturn (pc := 49) k_fm_play_49 rfl rfl ?_
            exact hv
        · replace hv := hv.2 q
          refine tr_aload_n (pc := 31) 0 k_fm_play_31 rfl rfl ?_
          refine tr_bipush (pc := 32) (v := -3) k_fm_play_32 (by decide) ?_
          have hT := hv
          clear hv
          refine tr_callV (pc := 34) (d' := d + 2) (mc' := 0) (ms' := 0) [vi (-3 : Int32)] k_fm_play_34 ca_fm_refuse ml_fm_133 ii_fm_refuse ⟨by decide, rfl⟩ pa_fm_refuse (by omega) (by omega) (by omega) rfl (Nat.le_of_ble_eq_true rfl) (Nat.le_of_ble_eq_true rfl) hT (fun v h9 hv => ?_)
          clear hT
          obtain ⟨y8, rfl, hv⟩ := hv
          obtain ⟨h7, eh⟩ : ∃ z, z = h9 := ⟨_, rfl⟩
          subst eh
          obtain ⟨hskh7, hv⟩ := hv
          show mT g me_fm_play (d + 3) 0 0 37 [some (vr 10 0), some (vi x1), some (vi x2)] [vi y8] h7 _
          refine tr_ireturn (pc := 37) k_fm_play_37 rfl rfl ?_
          exact hv
theorem v_fm_isCut_0 {g : mG} {d : Nat} (x1 : Int32) {h : mH} {Q : Option mV → mH → Prop} (hsk : mSK h) (hv : mT g me_fm_isCut (d + 1) 0 0 4 [some (vr 10 0), some (vi x1), some (vi (0 : Int32)), some (vi x1)] [] h Q) : mT g me_fm_isCut (d + 1) 0 0 0 [some (vr 10 0), some (vi x1), none, none] [] h Q := by
  refine tr_iconst (pc := 0) (v := 0) k_fm_isCut_0 (by decide) ?_
  refine tr_istore_n (pc := 1) 2 k_fm_isCut_1 rfl (by decide) rfl ?_
  show mT g me_fm_isCut (d + 1) 0 0 2 [some (vr 10 0), some (vi x1), some (vi (0 : Int32)), none] [] h _
  refine tr_iload_n (pc := 2) 1 k_fm_isCut_2 rfl rfl ?_
  refine tr_istore_n (pc := 3) 3 k_fm_isCut_3 rfl (by decide) rfl ?_
  show mT g me_fm_isCut (d + 1) 0 0 4 [some (vr 10 0), some (vi x1), some (vi (0 : Int32)), some (vi x1)] [] h _
  exact hv
theorem v_fm_isCut_4 {g : mG} {d : Nat} (x1 : Int32) (x2 : Int32) (x3 : Int32) {h : mH} {Q : Option mV → mH → Prop} (hsk : mSK h) (hv : ((x3 < 0 → (vp_nar .boolean x2 = x2 ∧ Q (some (vi x2)) h)) ∧ (¬ x3 < 0 → ((¬ x2 = 0 → (vp_in x3 30 ∧ mT g me_fm_isCut (d + 1) 0 0 4 [some (vr 10 0), some (vi x1), some (vi (1 : Int32)), some (vi (hI h 11 14 x3.toNatClampNeg))] [] h Q)) ∧ (x2 = 0 → (vp_in x3 30 ∧ (((hI h 12 0 x3.toNatClampNeg) = 0 → (vp_in x3 30 ∧ mT g me_fm_isCut (d + 1) 0 0 4 [some (vr 10 0), some (vi x1), some (vi (0 : Int32)), some (vi (hI h 11 14 x3.toNatClampNeg))] [] h Q)) ∧ (¬ (hI h 12 0 x3.toNatClampNeg) = 0 → (vp_in x3 30 ∧ mT g me_fm_isCut (d + 1) 0 0 4 [some (vr 10 0), some (vi x1), some (vi (1 : Int32)), some (vi (hI h 11 14 x3.toNatClampNeg))] [] h Q))))))))) : mT g me_fm_isCut (d + 1) 0 0 4 [some (vr 10 0), some (vi x1), some (vi x2), some (vi x3)] [] h Q := by
  refine tr_iload_n (pc := 4) 3 k_fm_isCut_4 rfl rfl ?_
  refine tr_if_lt (pc := 5) 37 k_fm_isCut_5 (by decide) (fun q => ?_) (fun q => ?_)
  · replace hv := hv.1 q
    refine tr_iload_n (pc := 37) 2 k_fm_isCut_37 rfl rfl ?_
    refine tr_ireturn (pc := 38) k_fm_isCut_38 rfl (mzret hv.1) ?_
    replace hv := hv.2
    exact hv
  · replace hv := hv.2 q
    refine tr_iload_n (pc := 8) 2 k_fm_isCut_8 rfl rfl ?_
    refine tr_if_ne (pc := 9) 21 k_fm_isCut_9 (by decide) (fun q => ?_) (fun q => ?_)
    · replace hv := hv.1 q
      refine tr_iconst (pc := 21) (v := 1) k_fm_isCut_21 (by decide) ?_
      refine tr_goto (pc := 22) 26 k_fm_isCut_22 (by decide) ?_
      refine tr_istore_n (pc := 26) 2 k_fm_isCut_26 rfl (by decide) rfl ?_
      show mT g me_fm_isCut (d + 1) 0 0 27 [some (vr 10 0), some (vi x1), some (vi (1 : Int32)), some (vi x3)] [] h _
      refine tr_aload_n (pc := 27) 0 k_fm_isCut_27 rfl rfl ?_
      refine tr_getP (pc := 28) k_fm_isCut_28 fl_fm_38 rfl (Eq.trans rfl (hsk.1 10 15 _ rfl)) ?_
      refine tr_iload_n (pc := 31) 3 k_fm_isCut_31 rfl rfl ?_
      refine tr_ialdx (pc := 32) k_fm_isCut_32 (mvin (hsk.2.1 11 14 _ rfl) hv.1) rfl ?_
      replace hv := hv.2
      refine tr_istore_n (pc := 33) 3 k_fm_isCut_33 rfl (by decide) rfl ?_
      show mT g me_fm_isCut (d + 1) 0 0 34 [some (vr 10 0), some (vi x1), some (vi (1 : Int32)), some (vi (hI h 11 14 x3.toNatClampNeg))] [] h _
      refine tr_goto (pc := 34) 4 k_fm_isCut_34 (by decide) ?_
      exact hv
    · replace hv := hv.2 q
      refine tr_aload_n (pc := 12) 0 k_fm_isCut_12 rfl rfl ?_
      refine tr_getP (pc := 13) k_fm_isCut_13 fl_fm_59 rfl (Eq.trans rfl (hsk.1 10 22 _ rfl)) ?_
      refine tr_iload_n (pc := 16) 3 k_fm_isCut_16 rfl rfl ?_
      refine tr_zaldx (pc := 17) k_fm_isCut_17 (mvin (hsk.2.1 12 0 _ rfl) hv.1) rfl ?_
      replace hv := hv.2
      refine tr_if_eq (pc := 18) 25 k_fm_isCut_18 (by decide) (fun q => ?_) (fun q => ?_)
      · replace hv := hv.1 q
        refine tr_iconst (pc := 25) (v := 0) k_fm_isCut_25 (by decide) ?_
        refine tr_istore_n (pc := 26) 2 k_fm_isCut_26 rfl (by decide) rfl ?_
        show mT g me_fm_isCut (d + 1) 0 0 27 [some (vr 10 0), some (vi x1), some (vi (0 : Int32)), some (vi x3)] [] h _
        refine tr_aload_n (pc := 27) 0 k_fm_isCut_27 rfl rfl ?_
        refine tr_getP (pc := 28) k_fm_isCut_28 fl_fm_38 rfl (Eq.trans rfl (hsk.1 10 15 _ rfl)) ?_
        refine tr_iload_n (pc := 31) 3 k_fm_isCut_31 rfl rfl ?_
        refine tr_ialdx (pc := 32) k_fm_isCut_32 (mvin (hsk.2.1 11 14 _ rfl) hv.1) rfl ?_
        replace hv := hv.2
        refine tr_istore_n (pc := 33) 3 k_fm_isCut_33 rfl (by decide) rfl ?_
        show mT g me_fm_isCut (d + 1) 0 0 34 [some (vr 10 0), some (vi x1), some (vi (0 : Int32)), some (vi (hI h 11 14 x3.toNatClampNeg))] [] h _
        refine tr_goto (pc := 34) 4 k_fm_isCut_34 (by decide) ?_
        exact hv
      · replace hv := hv.2 q
        refine tr_iconst (pc := 21) (v := 1) k_fm_isCut_21 (by decide) ?_
        refine tr_goto (pc := 22) 26 k_fm_isCut_22 (by decide) ?_
        refine tr_istore_n (pc := 26) 2 k_fm_isCut_26 rfl (by decide) rfl ?_
        show mT g me_fm_isCut (d + 1) 0 0 27 [some (vr 10 0), some (vi x1), some (vi (1 : Int32)), some (vi x3)] [] h _
        refine tr_aload_n (pc := 27) 0 k_fm_isCut_27 rfl rfl ?_
        refine tr_getP (pc := 28) k_fm_isCut_28 fl_fm_38 rfl (Eq.trans rfl (hsk.1 10 15 _ rfl)) ?_
        refine tr_iload_n (pc := 31) 3 k_fm_isCut_31 rfl rfl ?_
        refine tr_ialdx (pc := 32) k_fm_isCut_32 (mvin (hsk.2.1 11 14 _ rfl) hv.1) rfl ?_
        replace hv := hv.2
        refine tr_istore_n (pc := 33) 3 k_fm_isCut_33 rfl (by decide) rfl ?_
        show mT g me_fm_isCut (d + 1) 0 0 34 [some (vr 10 0), some (vi x1), some (vi (1 : Int32)), some (vi (hI h 11 14 x3.toNatClampNeg))] [] h _
        refine tr_goto (pc := 34) 4 k_fm_isCut_34 (by decide) ?_
        exact hv
theorem v_fm_pipe_0 {g : mG} {d : Nat} (x1 : Int32) (x2 : Int32) {h : mH} {Q : Option mV → mH → Prop} (hsk : mSK h) (hv : ((x1 < 0 → mT g me_fm_refuse (d + 2) 0 0 0 [some (vr 10 0), some (vi (-1 : Int32))] [] h (fun v h1 => ∃ y2, v = some (vi y2) ∧ mSK h1 ∧ Q (some (vi y2)) h1)) ∧ (¬ x1 < 0 → (((hI h 10 0 3) ≤ x1 → mT g me_fm_refuse (d + 2) 0 0 0 [some (vr 10 0), some (vi (-1 : Int32))] [] h (fun v h3 => ∃ y4, v = some (vi y4) ∧ mSK h3 ∧ Q (some (vi y4)) h3)) ∧ (¬ (hI h 10 0 3) ≤ x1 → (((1 : Int32) ≤ x2 → ((x2 ≤ (9 : Int32) → (vp_in x1 30 ∧ (vp_in x1 30 ∧ Q (some (vi (hI h 11 17 x1.toNatClampNeg))) (setI (setI h 11 17 x1.toNatClampNeg x2) 10 0 55 (0 : Int32))))) ∧ (¬ x2 ≤ (9 : Int32) → mT g me_fm_refuse (d + 2) 0 0 0 [some (vr 10 0), some (vi (-6 : Int32))] [] h (fun v h5 => ∃ y6, v = some (vi y6) ∧ mSK h5 ∧ Q (some (vi y6)) h5)))) ∧ (¬ (1 : Int32) ≤ x2 → mT g me_fm_refuse (d + 2) 0 0 0 [some (vr 10 0), some (vi (-4 : Int32))] [] h (fun v h7 => ∃ y8, v = some (vi y8) ∧ mSK h7 ∧ Q (some (vi y8)) h7)))))))) : mT g me_fm_pipe (d + 3) 0 0 0 [some (vr 10 0), some (vi x1), some (vi x2), none, none] [] h Q := by
  refine tr_aload_n (pc := 0) 0 k_fm_pipe_0 rfl rfl ?_
  refine tr_iload_n (pc := 1) 1 k_fm_pipe_1 rfl rfl ?_
  refine tr_callV (pc := 2) (d' := d + 2) (mc' := 0) (ms' := 0) [vi x1] k_fm_pipe_2 ca_fm_isJoint ml_fm_161 ii_fm_isJoint ⟨by decide, rfl⟩ pa_fm_isJoint (by omega) (by omega) (by omega) rfl (Nat.le_of_ble_eq_true rfl) (Nat.le_of_ble_eq_true rfl) (Qk := fun v h9 => mT g me_fm_pipe (d + 3) 0 0 5 [some (vr 10 0), some (vi x1), some (vi x2), none, none] (v.toList ++ []) h9 _) ?_ (fun _ _ z => z)
  show mT g me_fm_isJoint (d + 2) 0 0 0 [some (vr 10 0), some (vi x1)] [] h _
  refine tr_iload_n (pc := 0) 1 k_fm_isJoint_0 rfl rfl ?_
  refine tr_aload_n (pc := 1) 0 k_fm_isJoint_1 rfl rfl ?_
  refine tr_getIx (pc := 2) k_fm_isJoint_2 fl_fm_155 rfl rfl ?_
  refine tr_callS (pc := 5) (d' := d + 1) (mc' := 0) (ms' := 0) [vi x1, vi (hI h 10 0 3)] k_fm_isJoint_5 ca_fm_isIn ml_fm_144 is_fm_isIn pa_fm_isIn (by omega) (by omega) (by omega) rfl (Nat.le_of_ble_eq_true rfl) (Nat.le_of_ble_eq_true rfl) (Qk := fun v h9 => mT g me_fm_isJoint (d + 2) 0 0 8 [some (vr 10 0), some (vi x1)] (v.toList ++ []) h9 _) ?_ (fun _ _ z => z)
  show mT g me_fm_isIn (d + 1) 0 0 0 [some (vi x1), some (vi (hI h 10 0 3))] [] h _
  refine tr_iload_n (pc := 0) 0 k_fm_isIn_0 rfl rfl ?_
  refine tr_if_lt (pc := 1) 13 k_fm_isIn_1 (by decide) (fun q => ?_) (fun q => ?_)
  · replace hv := hv.1 q
    refine tr_iconst (pc := 13) (v := 0) k_fm_isIn_13 (by decide) ?_
    refine tr_ireturn (pc := 14) k_fm_isIn_14 rfl rfl ?_
    show mT g me_fm_isJoint (d + 2) 0 0 8 [some (vr 10 0), some (vi x1)] [vi (0 : Int32)] h _
    refine tr_ireturn (pc := 8) k_fm_isJoint_8 rfl rfl ?_
    show mT g me_fm_pipe (d + 3) 0 0 5 [some (vr 10 0), some (vi x1), some (vi x2), none, none] [vi (0 : Int32)] h _
    refine tr_if_eq (pc := 5) 18 k_fm_pipe_5 (by decide) (fun _ => ?_) (fun q => absurd q (by decide))
    refine tr_iconst (pc := 18) (v := -1) k_fm_pipe_18 (by decide) ?_
    refine tr_istore_n (pc := 19) 3 k_fm_pipe_19 rfl (by decide) rfl ?_
    show mT g me_fm_pipe (d + 3) 0 0 20 [some (vr 10 0), some (vi x1), some (vi x2), some (vi (-1 : Int32)), none] [] h _
    refine tr_iload_n (pc := 20) 3 k_fm_pipe_20 rfl rfl ?_
    refine tr_if_eq (pc := 21) 30 k_fm_pipe_21 (by decide) (fun q => absurd q (by decide)) (fun _ => ?_)
    refine tr_aload_n (pc := 24) 0 k_fm_pipe_24 rfl rfl ?_
    refine tr_iload_n (pc := 25) 3 k_fm_pipe_25 rfl rfl ?_
    have hT := hv
    clear hv
    refine tr_callV (pc := 26) (d' := d + 2) (mc' := 0) (ms' := 0) [vi (-1 : Int32)] k_fm_pipe_26 ca_fm_refuse ml_fm_133 ii_fm_refuse ⟨by decide, rfl⟩ pa_fm_refuse (by omega) (by omega) (by omega) rfl (Nat.le_of_ble_eq_true rfl) (Nat.le_of_ble_eq_true rfl) hT (fun v h9 hv => ?_)
    clear hT
    obtain ⟨y2, rfl, hv⟩ := hv
    obtain ⟨h1, eh⟩ : ∃ z, z = h9 := ⟨_, rfl⟩
    subst eh
    obtain ⟨hskh1, hv⟩ := hv
    show mT g me_fm_pipe (d + 3) 0 0 29 [some (vr 10 0), some (vi x1), some (vi x2), some (vi (-1 : Int32)), none] [vi y2] h1 _
    refine tr_ireturn (pc := 29) k_fm_pipe_29 rfl rfl ?_
    exact hv
  · replace hv := hv.2 q
    refine tr_iload_n (pc := 4) 0 k_fm_isIn_4 rfl rfl ?_
    refine tr_iload_n (pc := 5) 1 k_fm_isIn_5 rfl rfl ?_
    refine tr_icmp_ge (pc := 6) 13 k_fm_isIn_6 (by decide) (fun q => ?_) (fun q => ?_)
    · replace hv := hv.1 q
      refine tr_iconst (pc := 13) (v := 0) k_fm_isIn_13 (by decide) ?_
      refine tr_ireturn (pc := 14) k_fm_isIn_14 rfl rfl ?_
      show mT g me_fm_isJoint (d + 2) 0 0 8 [some (vr 10 0), some (vi x1)] [vi (0 : Int32)] h _
      refine tr_ireturn (pc := 8) k_fm_isJoint_8 rfl rfl ?_
      show mT g me_fm_pipe (d + 3) 0 0 5 [some (vr 10 0), some (vi x1), some (vi x2), none, none] [vi (0 : Int32)] h _
      refine tr_if_eq (pc := 5) 18 k_fm_pipe_5 (by decide) (fun _ => ?_) (fun q => absurd q (by decide))
      refine tr_iconst (pc := 18) (v := -1) k_fm_pipe_18 (by decide) ?_
      refine tr_istore_n (pc := 19) 3 k_fm_pipe_19 rfl (by decide) rfl ?_
      show mT g me_fm_pipe (d + 3) 0 0 20 [some (vr 10 0), some (vi x1), some (vi x2), some (vi (-1 : Int32)), none] [] h _
      refine tr_iload_n (pc := 20) 3 k_fm_pipe_20 rfl rfl ?_
      refine tr_if_eq (pc := 21) 30 k_fm_pipe_21 (by decide) (fun q => absurd q (by decide)) (fun _ => ?_)
      refine tr_aload_n (pc := 24) 0 k_fm_pipe_24 rfl rfl ?_
      refine tr_iload_n (pc := 25) 3 k_fm_pipe_25 rfl rfl ?_
      have hT := hv
      clear hv
      refine tr_callV (pc := 26) (d' := d + 2) (mc' := 0) (ms' := 0) [vi (-1 : Int32)] k_fm_pipe_26 ca_fm_refuse ml_fm_133 ii_fm_refuse ⟨by decide, rfl⟩ pa_fm_refuse (by omega) (by omega) (by omega) rfl (Nat.le_of_ble_eq_true rfl) (Nat.le_of_ble_eq_true rfl) hT (fun v h9 hv => ?_)
      clear hT
      obtain ⟨y4, rfl, hv⟩ := hv
      obtain ⟨h3, eh⟩ : ∃ z, z = h9 := ⟨_, rfl⟩
      subst eh
      obtain ⟨hskh3, hv⟩ := hv
      show mT g me_fm_pipe (d + 3) 0 0 29 [some (vr 10 0), some (vi x1), some (vi x2), some (vi (-1 : Int32)), none] [vi y4] h3 _
      refine tr_ireturn (pc := 29) k_fm_pipe_29 rfl rfl ?_
      exact hv
    · replace hv := hv.2 q
      refine tr_iconst (pc := 9) (v := 1) k_fm_isIn_9 (by decide) ?_
      refine tr_goto (pc := 10) 14 k_fm_isIn_10 (by decide) ?_
      refine tr_ireturn (pc := 14) k_fm_isIn_14 rfl rfl ?_
      show mT g me_fm_isJoint (d + 2) 0 0 8 [some (vr 10 0), some (vi x1)] [vi (1 : Int32)] h _
      refine tr_ireturn (pc := 8) k_fm_isJoint_8 rfl rfl ?_
      show mT g me_fm_pipe (d + 3) 0 0 5 [some (vr 10 0), some (vi x1), some (vi x2), none, none] [vi (1 : Int32)] h _
      refine tr_if_eq (pc := 5) 18 k_fm_pipe_5 (by decide) (fun q => absurd q (by decide)) (fun _ => ?_)
      refine tr_iload_n (pc := 8) 2 k_fm_pipe_8 rfl rfl ?_
      refine tr_iconst (pc := 9) (v := 1) k_fm_pipe_9 (by decide) ?_
      refine tr_bipush (pc := 10) (v := 9) k_fm_pipe_10 (by decide) ?_
      refine tr_callS (pc := 12) (d' := d + 2) (mc' := 0) (ms' := 0) [vi x2, vi (1 : Int32), vi (9 : Int32)] k_fm_pipe_12 ca_fm_wrong ml_fm_148 is_fm_wrong pa_fm_wrong (by omega) (by omega) (by omega) rfl (Nat.le_of_ble_eq_true rfl) (Nat.le_of_ble_eq_true rfl) (Qk := fun v h9 => mT g me_fm_pipe (d + 3) 0 0 15 [some (vr 10 0), some (vi x1), some (vi x2), none, none] (v.toList ++ []) h9 _) ?_ (fun _ _ z => z)
      show mT g me_fm_wrong (d + 2) 0 0 0 [some (vi x2), some (vi (1 : Int32)), some (vi (9 : Int32))] [] h _
      refine tr_iload_n (pc := 0) 0 k_fm_wrong_0 rfl rfl ?_
      refine tr_iload_n (pc := 1) 1 k_fm_wrong_1 rfl rfl ?_
      refine tr_icmp_ge (pc := 2) 10 k_fm_wrong_2 (by decide) (fun q => ?_) (fun q => ?_)
      · replace hv := hv.1 q
        refine tr_iload_n (pc := 10) 0 k_fm_wrong_10 rfl rfl ?_
        refine tr_iload_n (pc := 11) 2 k_fm_wrong_11 rfl rfl ?_
        refine tr_icmp_le (pc := 12) 20 k_fm_wrong_12 (by decide) (fun q => ?_) (fun q => ?_)
        · replace hv := hv.1 q
          refine tr_iconst (pc := 20) (v := 0) k_fm_wrong_20 (by decide) ?_
          refine tr_ireturn (pc := 21) k_fm_wrong_21 rfl rfl ?_
          show mT g me_fm_pipe (d + 3) 0 0 15 [some (vr 10 0), some (vi x1), some (vi x2), none, none] [vi (0 : Int32)] h _
          refine tr_goto (pc := 15) 19 k_fm_pipe_15 (by decide) ?_
          refine tr_istore_n (pc := 19) 3 k_fm_pipe_19 rfl (by decide) rfl ?_
          show mT g me_fm_pipe (d + 3) 0 0 20 [some (vr 10 0), some (vi x1), some (vi x2), some (vi (0 : Int32)), none] [] h _
          refine tr_iload_n (pc := 20) 3 k_fm_pipe_20 rfl rfl ?_
          refine tr_if_eq (pc := 21) 30 k_fm_pipe_21 (by decide) (fun _ => ?_) (fun q => absurd q (by decide))
          refine tr_aload_n (pc := 30) 0 k_fm_pipe_30 rfl rfl ?_
          refine tr_getP (pc := 31) k_fm_pipe_31 fl_fm_47 rfl (Eq.trans rfl (hsk.1 10 18 _ rfl)) ?_
          refine tr_iload_n (pc := 34) 1 k_fm_pipe_34 rfl rfl ?_
          refine tr_ialdx (pc := 35) k_fm_pipe_35 (mvin (hsk.2.1 11 17 _ rfl) hv.1) rfl ?_
          replace hv := hv.2
          refine tr_istore (pc := 36) k_fm_pipe_36 (by decide) rfl ?_
          show mT g me_fm_pipe (d + 3) 0 0 38 [some (vr 10 0), some (vi x1), some (vi x2), some (vi (0 : Int32)), some (vi (hI h 11 17 x1.toNatClampNeg))] [] h _
          refine tr_aload_n (pc := 38) 0 k_fm_pipe_38 rfl rfl ?_
          refine tr_getP (pc := 39) k_fm_pipe_39 fl_fm_47 rfl (Eq.trans rfl (hsk.1 10 18 _ rfl)) ?_
          refine tr_iload_n (pc := 42) 1 k_fm_pipe_42 rfl rfl ?_
          refine tr_iload_n (pc := 43) 2 k_fm_pipe_43 rfl rfl ?_
          refine tr_iast (pc := 44) k_fm_pipe_44 (mvin (hsk.2.1 11 17 _ rfl) hv.1) ?_
          replace hv := hv.2
          refine tr_aload_n (pc := 45) 0 k_fm_pipe_45 rfl rfl ?_
          refine tr_callV (pc := 46) (d' := d + 2) (mc' := 0) (ms' := 0) [] k_fm_pipe_46 ca_fm_changes ml_fm_152 ii_fm_changes ⟨by decide, rfl⟩ pa_fm_changes (by omega) (by omega) (by omega) rfl (Nat.le_of_ble_eq_true rfl) (Nat.le_of_ble_eq_true rfl) (Qk := fun v h9 => mT g me_fm_pipe (d + 3) 0 0 49 [some (vr 10 0), some (vi x1), some (vi x2), some (vi (0 : Int32)), some (vi (hI h 11 17 x1.toNatClampNeg))] (v.toList ++ []) h9 _) ?_ (fun _ _ z => z)
          show mT g me_fm_changes (d + 2) 0 0 0 [some (vr 10 0)] [] (setI h 11 17 x1.toNatClampNeg x2) _
          refine tr_aload_n (pc := 0) 0 k_fm_changes_0 rfl rfl ?_
          refine tr_iconst (pc := 1) (v := 0) k_fm_changes_1 (by decide) ?_
          refine tr_putI (pc := 2) k_fm_changes_2 fl_fm_137 (Or.inl rfl) rfl ⟨rfl, rfl⟩ ?_
          refine tr_return (pc := 5) k_fm_changes_5 rfl ?_
          show mT g me_fm_pipe (d + 3) 0 0 49 [some (vr 10 0), some (vi x1), some (vi x2), some (vi (0 : Int32)), some (vi (hI h 11 17 x1.toNatClampNeg))] [] (setI (setI h 11 17 x1.toNatClampNeg x2) 10 0 55 (0 : Int32)) _
          refine tr_iload (pc := 49) k_fm_pipe_49 rfl ?_
          refine tr_ireturn (pc := 51) k_fm_pipe_51 rfl rfl ?_
          exact hv
        · replace hv := hv.2 q
          refine tr_bipush (pc := 15) (v := -6) k_fm_wrong_15 (by decide) ?_
          refine tr_goto (pc := 17) 21 k_fm_wrong_17 (by decide) ?_
          refine tr_ireturn (pc := 21) k_fm_wrong_21 rfl rfl ?_
          show mT g me_fm_pipe (d + 3) 0 0 15 [some (vr 10 0), some (vi x1), some (vi x2), none, none] [vi (-6 : Int32)] h _
          refine tr_goto (pc := 15) 19 k_fm_pipe_15 (by decide) ?_
          refine tr_istore_n (pc := 19) 3 k_fm_pipe_19 rfl (by decide) rfl ?_
          show mT g me_fm_pipe (d + 3) 0 0 20 [some (vr 10 0), some (vi x1), some (vi x2), some (vi (-6 : Int32)), none] [] h _
          refine tr_iload_n (pc := 20) 3 k_fm_pipe_20 rfl rfl ?_
          refine tr_if_eq (pc := 21) 30 k_fm_pipe_21 (by decide) (fun q => absurd q (by decide)) (fun _ => ?_)
          refine tr_aload_n (pc := 24) 0 k_fm_pipe_24 rfl rfl ?_
          refine tr_iload_n (pc := 25) 3 k_fm_pipe_25 rfl rfl ?_
          have hT := hv
          clear hv
          refine tr_callV (pc := 26) (d' := d + 2) (mc' := 0) (ms' := 0) [vi (-6 : Int32)] k_fm_pipe_26 ca_fm_refuse ml_fm_133 ii_fm_refuse ⟨by decide, rfl⟩ pa_fm_refuse (by omega) (by omega) (by omega) rfl (Nat.le_of_ble_eq_true rfl) (Nat.le_of_ble_eq_true rfl) hT (fun v h9 hv => ?_)
          clear hT
          obtain ⟨y6, rfl, hv⟩ := hv
          obtain ⟨h5, eh⟩ : ∃ z, z = h9 := ⟨_, rfl⟩
          subst eh
          obtain ⟨hskh5, hv⟩ := hv
          show mT g me_fm_pipe (d + 3) 0 0 29 [some (vr 10 0), some (vi x1), some (vi x2), some (vi (-6 : Int32)), none] [vi y6] h5 _
          refine tr_ireturn (pc := 29) k_fm_pipe_29 rfl rfl ?_
          exact hv
      · replace hv := hv.2 q
        refine tr_bipush (pc := 5) (v := -4) k_fm_wrong_5 (by decide) ?_
        refine tr_goto (pc := 7) 21 k_fm_wrong_7 (by decide) ?_
        refine tr_ireturn (pc := 21) k_fm_wrong_21 rfl rfl ?_
        show mT g me_fm_pipe (d + 3) 0 0 15 [some (vr 10 0), some (vi x1), some (vi x2), none, none] [vi (-4 : Int32)] h _
        refine tr_goto (pc := 15) 19 k_fm_pipe_15 (by decide) ?_
        refine tr_istore_n (pc := 19) 3 k_fm_pipe_19 rfl (by decide) rfl ?_
        show mT g me_fm_pipe (d + 3) 0 0 20 [some (vr 10 0), some (vi x1), some (vi x2), some (vi (-4 : Int32)), none] [] h _
        refine tr_iload_n (pc := 20) 3 k_fm_pipe_20 rfl rfl ?_
        refine tr_if_eq (pc := 21) 30 k_fm_pipe_21 (by decide) (fun q => absurd q (by decide)) (fun _ => ?_)
        refine tr_aload_n (pc := 24) 0 k_fm_pipe_24 rfl rfl ?_
        refine tr_iload_n (pc := 25) 3 k_fm_pipe_25 rfl rfl ?_
        have hT := hv
        clear hv
        refine tr_callV (pc := 26) (d' := d + 2) (mc' := 0) (ms' := 0) [vi (-4 : Int32)] k_fm_pipe_26 ca_fm_refuse ml_fm_133 ii_fm_refuse ⟨by decide, rfl⟩ pa_fm_refuse (by omega) (by omega) (by omega) rfl (Nat.le_of_ble_eq_true rfl) (Nat.le_of_ble_eq_true rfl) hT (fun v h9 hv => ?_)
        clear hT
        obtain ⟨y8, rfl, hv⟩ := hv
        obtain ⟨h7, eh⟩ : ∃ z, z = h9 := ⟨_, rfl⟩
        subst eh
        obtain ⟨hskh7, hv⟩ := hv
        show mT g me_fm_pipe (d + 3) 0 0 29 [some (vr 10 0), some (vi x1), some (vi x2), some (vi (-4 : Int32)), none] [vi y8] h7 _
        refine tr_ireturn (pc := 29) k_fm_pipe_29 rfl rfl ?_
        exact hv
theorem v_fm_leak_0 {g : mG} {d : Nat} (x1 : Int32) (x2 : Int32) {h : mH} {Q : Option mV → mH → Prop} (hsk : mSK h) (hv : ((x1 < 0 → mT g me_fm_refuse (d + 2) 0 0 0 [some (vr 10 0), some (vi (-1 : Int32))] [] h (fun v h1 => ∃ y2, v = some (vi y2) ∧ mSK h1 ∧ Q (some (vi y2)) h1)) ∧ (¬ x1 < 0 → (((hI h 10 0 3) ≤ x1 → mT g me_fm_refuse (d + 2) 0 0 0 [some (vr 10 0), some (vi (-1 : Int32))] [] h (fun v h3 => ∃ y4, v = some (vi y4) ∧ mSK h3 ∧ Q (some (vi y4)) h3)) ∧ (¬ (hI h 10 0 3) ≤ x1 → (((0 : Int32) ≤ x2 → ((x2 ≤ (60 : Int32) → (vp_in x1 30 ∧ (vp_in x1 30 ∧ Q (some (vi (hI h 11 19 x1.toNatClampNeg))) (setI h 11 19 x1.toNatClampNeg x2)))) ∧ (¬ x2 ≤ (60 : Int32) → mT g me_fm_refuse (d + 2) 0 0 0 [some (vr 10 0), some (vi (-6 : Int32))] [] h (fun v h5 => ∃ y6, v = some (vi y6) ∧ mSK h5 ∧ Q (some (vi y6)) h5)))) ∧ (¬ (0 : Int32) ≤ x2 → mT g me_fm_refuse (d + 2) 0 0 0 [some (vr 10 0), some (vi (-4 : Int32))] [] h (fun v h7 => ∃ y8, v = some (vi y8) ∧ mSK h7 ∧ Q (some (vi y8)) h7)))))))) : mT g me_fm_leak (d + 3) 0 0 0 [some (vr 10 0), some (vi x1), some (vi x2), none, none] [] h Q := by
  refine tr_aload_n (pc := 0) 0 k_fm_leak_0 rfl rfl ?_
  refine tr_iload_n (pc := 1) 1 k_fm_leak_1 rfl rfl ?_
  refine tr_callV (pc := 2) (d' := d + 2) (mc' := 0) (ms' := 0) [vi x1] k_fm_leak_2 ca_fm_isJoint ml_fm_161 ii_fm_isJoint ⟨by decide, rfl⟩ pa_fm_isJoint (by omega) (by omega) (by omega) rfl (Nat.le_of_ble_eq_true rfl) (Nat.le_of_ble_eq_true rfl) (Qk := fun v h9 => mT g me_fm_leak (d + 3) 0 0 5 [some (vr 10 0), some (vi x1), some (vi x2), none, none] (v.toList ++ []) h9 _) ?_ (fun _ _ z => z)
  show mT g me_fm_isJoint (d + 2) 0 0 0 [some (vr 10 0), some (vi x1)] [] h _
  refine tr_iload_n (pc := 0) 1 k_fm_isJoint_0 rfl rfl ?_
  refine tr_aload_n (pc := 1) 0 k_fm_isJoint_1 rfl rfl ?_
  refine tr_getIx (pc := 2) k_fm_isJoint_2 fl_fm_155 rfl rfl ?_
  refine tr_callS (pc := 5) (d' := d + 1) (mc' := 0) (ms' := 0) [vi x1, vi (hI h 10 0 3)] k_fm_isJoint_5 ca_fm_isIn ml_fm_144 is_fm_isIn pa_fm_isIn (by omega) (by omega) (by omega) rfl (Nat.le_of_ble_eq_true rfl) (Nat.le_of_ble_eq_true rfl) (Qk := fun v h9 => mT g me_fm_isJoint (d + 2) 0 0 8 [some (vr 10 0), some (vi x1)] (v.toList ++ []) h9 _) ?_ (fun _ _ z => z)
  show mT g me_fm_isIn (d + 1) 0 0 0 [some (vi x1), some (vi (hI h 10 0 3))] [] h _
  refine tr_iload_n (pc := 0) 0 k_fm_isIn_0 rfl rfl ?_
  refine tr_if_lt (pc := 1) 13 k_fm_isIn_1 (by decide) (fun q => ?_) (fun q => ?_)
  · replace hv := hv.1 q
    refine tr_iconst (pc := 13) (v := 0) k_fm_isIn_13 (by decide) ?_
    refine tr_ireturn (pc := 14) k_fm_isIn_14 rfl rfl ?_
    show mT g me_fm_isJoint (d + 2) 0 0 8 [some (vr 10 0), some (vi x1)] [vi (0 : Int32)] h _
    refine tr_ireturn (pc := 8) k_fm_isJoint_8 rfl rfl ?_
    show mT g me_fm_leak (d + 3) 0 0 5 [some (vr 10 0), some (vi x1), some (vi x2), none, none] [vi (0 : Int32)] h _
    refine tr_if_eq (pc := 5) 18 k_fm_leak_5 (by decide) (fun _ => ?_) (fun q => absurd q (by decide))
    refine tr_iconst (pc := 18) (v := -1) k_fm_leak_18 (by decide) ?_
    refine tr_istore_n (pc := 19) 3 k_fm_leak_19 rfl (by decide) rfl ?_
    show mT g me_fm_leak (d + 3) 0 0 20 [some (vr 10 0), some (vi x1), some (vi x2), some (vi (-1 : Int32)), none] [] h _
    refine tr_iload_n (pc := 20) 3 k_fm_leak_20 rfl rfl ?_
    refine tr_if_eq (pc := 21) 30 k_fm_leak_21 (by decide) (fun q => absurd q (by decide)) (fun _ => ?_)
    refine tr_aload_n (pc := 24) 0 k_fm_leak_24 rfl rfl ?_
    refine tr_iload_n (pc := 25) 3 k_fm_leak_25 rfl rfl ?_
    have hT := hv
    clear hv
    refine tr_callV (pc := 26) (d' := d + 2) (mc' := 0) (ms' := 0) [vi (-1 : Int32)] k_fm_leak_26 ca_fm_refuse ml_fm_133 ii_fm_refuse ⟨by decide, rfl⟩ pa_fm_refuse (by omega) (by omega) (by omega) rfl (Nat.le_of_ble_eq_true rfl) (Nat.le_of_ble_eq_true rfl) hT (fun v h9 hv => ?_)
    clear hT
    obtain ⟨y2, rfl, hv⟩ := hv
    obtain ⟨h1, eh⟩ : ∃ z, z = h9 := ⟨_, rfl⟩
    subst eh
    obtain ⟨hskh1, hv⟩ := hv
    show mT g me_fm_leak (d + 3) 0 0 29 [some (vr 10 0), some (vi x1), some (vi x2), some (vi (-1 : Int32)), none] [vi y2] h1 _
    refine tr_ireturn (pc := 29) k_fm_leak_29 rfl rfl ?_
    exact hv
  · replace hv := hv.2 q
    refine tr_iload_n (pc := 4) 0 k_fm_isIn_4 rfl rfl ?_
    refine tr_iload_n (pc := 5) 1 k_fm_isIn_5 rfl rfl ?_
    refine tr_icmp_ge (pc := 6) 13 k_fm_isIn_6 (by decide) (fun q => ?_) (fun q => ?_)
    · replace hv := hv.1 q
      refine tr_iconst (pc := 13) (v := 0) k_fm_isIn_13 (by decide) ?_
      refine tr_ireturn (pc := 14) k_fm_isIn_14 rfl rfl ?_
      show mT g me_fm_isJoint (d + 2) 0 0 8 [some (vr 10 0), some (vi x1)] [vi (0 : Int32)] h _
      refine tr_ireturn (pc := 8) k_fm_isJoint_8 rfl rfl ?_
      show mT g me_fm_leak (d + 3) 0 0 5 [some (vr 10 0), some (vi x1), some (vi x2), none, none] [vi (0 : Int32)] h _
      refine tr_if_eq (pc := 5) 18 k_fm_leak_5 (by decide) (fun _ => ?_) (fun q => absurd q (by decide))
      refine tr_iconst (pc := 18) (v := -1) k_fm_leak_18 (by decide) ?_
      refine tr_istore_n (pc := 19) 3 k_fm_leak_19 rfl (by decide) rfl ?_
      show mT g me_fm_leak (d + 3) 0 0 20 [some (vr 10 0), some (vi x1), some (vi x2), some (vi (-1 : Int32)), none] [] h _
      refine tr_iload_n (pc := 20) 3 k_fm_leak_20 rfl rfl ?_
      refine tr_if_eq (pc := 21) 30 k_fm_leak_21 (by decide) (fun q => absurd q (by decide)) (fun _ => ?_)
      refine tr_aload_n (pc := 24) 0 k_fm_leak_24 rfl rfl ?_
      refine tr_iload_n (pc := 25) 3 k_fm_leak_25 rfl rfl ?_
      have hT := hv
      clear hv
      refine tr_callV (pc := 26) (d' := d + 2) (mc' := 0) (ms' := 0) [vi (-1 : Int32)] k_fm_leak_26 ca_fm_refuse ml_fm_133 ii_fm_refuse ⟨by decide, rfl⟩ pa_fm_refuse (by omega) (by omega) (by omega) rfl (Nat.le_of_ble_eq_true rfl) (Nat.le_of_ble_eq_true rfl) hT (fun v h9 hv => ?_)
      clear hT
      obtain ⟨y4, rfl, hv⟩ := hv
      obtain ⟨h3, eh⟩ : ∃ z, z = h9 := ⟨_, rfl⟩
      subst eh
      obtain ⟨hskh3, hv⟩ := hv
      show mT g me_fm_leak (d + 3) 0 0 29 [some (vr 10 0), some (vi x1), some (vi x2), some (vi (-1 : Int32)), none] [vi y4] h3 _
      refine tr_ireturn (pc := 29) k_fm_leak_29 rfl rfl ?_
      exact hv
    · replace hv := hv.2 q
      refine tr_iconst (pc := 9) (v := 1) k_fm_isIn_9 (by decide) ?_
      refine tr_goto (pc := 10) 14 k_fm_isIn_10 (by decide) ?_
      refine tr_ireturn (pc := 14) k_fm_isIn_14 rfl rfl ?_
      show mT g me_fm_isJoint (d + 2) 0 0 8 [some (vr 10 0), some (vi x1)] [vi (1 : Int32)] h _
      refine tr_ireturn (pc := 8) k_fm_isJoint_8 rfl rfl ?_
      show mT g me_fm_leak (d + 3) 0 0 5 [some (vr 10 0), some (vi x1), some (vi x2), none, none] [vi (1 : Int32)] h _
      refine tr_if_eq (pc := 5) 18 k_fm_leak_5 (by decide) (fun q => absurd q (by decide)) (fun _ => ?_)
      refine tr_iload_n (pc := 8) 2 k_fm_leak_8 rfl rfl ?_
      refine tr_iconst (pc := 9) (v := 0) k_fm_leak_9 (by decide) ?_
      refine tr_bipush (pc := 10) (v := 60) k_fm_leak_10 (by decide) ?_
      refine tr_callS (pc := 12) (d' := d + 2) (mc' := 0) (ms' := 0) [vi x2, vi (0 : Int32), vi (60 : Int32)] k_fm_leak_12 ca_fm_wrong ml_fm_148 is_fm_wrong pa_fm_wrong (by omega) (by omega) (by omega) rfl (Nat.le_of_ble_eq_true rfl) (Nat.le_of_ble_eq_true rfl) (Qk := fun v h9 => mT g me_fm_leak (d + 3) 0 0 15 [some (vr 10 0), some (vi x1), some (vi x2), none, none] (v.toList ++ []) h9 _) ?_ (fun _ _ z => z)
      show mT g me_fm_wrong (d + 2) 0 0 0 [some (vi x2), some (vi (0 : Int32)), some (vi (60 : Int32))] [] h _
      refine tr_iload_n (pc := 0) 0 k_fm_wrong_0 rfl rfl ?_
      refine tr_iload_n (pc := 1) 1 k_fm_wrong_1 rfl rfl ?_
      refine tr_icmp_ge (pc := 2) 10 k_fm_wrong_2 (by decide) (fun q => ?_) (fun q => ?_)
      · replace hv := hv.1 q
        refine tr_iload_n (pc := 10) 0 k_fm_wrong_10 rfl rfl ?_
        refine tr_iload_n (pc := 11) 2 k_fm_wrong_11 rfl rfl ?_
        refine tr_icmp_le (pc := 12) 20 k_fm_wrong_12 (by decide) (fun q => ?_) (fun q => ?_)
        · replace hv := hv.1 q
          refine tr_iconst (pc := 20) (v := 0) k_fm_wrong_20 (by decide) ?_
          refine tr_ireturn (pc := 21) k_fm_wrong_21 rfl rfl ?_
          show mT g me_fm_leak (d + 3) 0 0 15 [some (vr 10 0), some (vi x1), some (vi x2), none, none] [vi (0 : Int32)] h _
          refine tr_goto (pc := 15) 19 k_fm_leak_15 (by decide) ?_
          refine tr_istore_n (pc := 19) 3 k_fm_leak_19 rfl (by decide) rfl ?_
          show mT g me_fm_leak (d + 3) 0 0 20 [some (vr 10 0), some (vi x1), some (vi x2), some (vi (0 : Int32)), none] [] h _
          refine tr_iload_n (pc := 20) 3 k_fm_leak_20 rfl rfl ?_
          refine tr_if_eq (pc := 21) 30 k_fm_leak_21 (by decide) (fun _ => ?_) (fun q => absurd q (by decide))
          refine tr_aload_n (pc := 30) 0 k_fm_leak_30 rfl rfl ?_
          refine tr_getP (pc := 31) k_fm_leak_31 fl_fm_53 rfl (Eq.trans rfl (hsk.1 10 20 _ rfl)) ?_
          refine tr_iload_n (pc := 34) 1 k_fm_leak_34 rfl rfl ?_
          refine tr_ialdx (pc := 35) k_fm_leak_35 (mvin (hsk.2.1 11 19 _ rfl) hv.1) rfl ?_
          replace hv := hv.2
          refine tr_istore (pc := 36) k_fm_leak_36 (by decide) rfl ?_
          show mT g me_fm_leak (d + 3) 0 0 38 [some (vr 10 0), some (vi x1), some (vi x2), some (vi (0 : Int32)), some (vi (hI h 11 19 x1.toNatClampNeg))] [] h _
          refine tr_aload_n (pc := 38) 0 k_fm_leak_38 rfl rfl ?_
          refine tr_getP (pc := 39) k_fm_leak_39 fl_fm_53 rfl (Eq.trans rfl (hsk.1 10 20 _ rfl)) ?_
          refine tr_iload_n (pc := 42) 1 k_fm_leak_42 rfl rfl ?_
          refine tr_iload_n (pc := 43) 2 k_fm_leak_43 rfl rfl ?_
          refine tr_iast (pc := 44) k_fm_leak_44 (mvin (hsk.2.1 11 19 _ rfl) hv.1) ?_
          replace hv := hv.2
          refine tr_iload (pc := 45) k_fm_leak_45 rfl ?_
          refine tr_ireturn (pc := 47) k_fm_leak_47 rfl rfl ?_
          exact hv
        · replace hv := hv.2 q
          refine tr_bipush (pc := 15) (v := -6) k_fm_wrong_15 (by decide) ?_
          refine tr_goto (pc := 17) 21 k_fm_wrong_17 (by decide) ?_
          refine tr_ireturn (pc := 21) k_fm_wrong_21 rfl rfl ?_
          show mT g me_fm_leak (d + 3) 0 0 15 [some (vr 10 0), some (vi x1), some (vi x2), none, none] [vi (-6 : Int32)] h _
          refine tr_goto (pc := 15) 19 k_fm_leak_15 (by decide) ?_
          refine tr_istore_n (pc := 19) 3 k_fm_leak_19 rfl (by decide) rfl ?_
          show mT g me_fm_leak (d + 3) 0 0 20 [some (vr 10 0), some (vi x1), some (vi x2), some (vi (-6 : Int32)), none] [] h _
          refine tr_iload_n (pc := 20) 3 k_fm_leak_20 rfl rfl ?_
          refine tr_if_eq (pc := 21) 30 k_fm_leak_21 (by decide) (fun q => absurd q (by decide)) (fun _ => ?_)
          refine tr_aload_n (pc := 24) 0 k_fm_leak_24 rfl rfl ?_
          refine tr_iload_n (pc := 25) 3 k_fm_leak_25 rfl rfl ?_
          have hT := hv
          clear hv
          refine tr_callV (pc := 26) (d' := d + 2) (mc' := 0) (ms' := 0) [vi (-6 : Int32)] k_fm_leak_26 ca_fm_refuse ml_fm_133 ii_fm_refuse ⟨by decide, rfl⟩ pa_fm_refuse (by omega) (by omega) (by omega) rfl (Nat.le_of_ble_eq_true rfl) (Nat.le_of_ble_eq_true rfl) hT (fun v h9 hv => ?_)
          clear hT
          obtain ⟨y6, rfl, hv⟩ := hv
          obtain ⟨h5, eh⟩ : ∃ z, z = h9 := ⟨_, rfl⟩
          subst eh
          obtain ⟨hskh5, hv⟩ := hv
          show mT g me_fm_leak (d + 3) 0 0 29 [some (vr 10 0), some (vi x1), some (vi x2), some (vi (-6 : Int32)), none] [vi y6] h5 _
          refine tr_ireturn (pc := 29) k_fm_leak_29 rfl rfl ?_
          exact hv
      · replace hv := hv.2 q
        refine tr_bipush (pc := 5) (v := -4) k_fm_wrong_5 (by decide) ?_
        refine tr_goto (pc := 7) 21 k_fm_wrong_7 (by decide) ?_
        refine tr_ireturn (pc := 21) k_fm_wrong_21 rfl rfl ?_
        show mT g me_fm_leak (d + 3) 0 0 15 [some (vr 10 0), some (vi x1), some (vi x2), none, none] [vi (-4 : Int32)] h _
        refine tr_goto (pc := 15) 19 k_fm_leak_15 (by decide) ?_
        refine tr_istore_n (pc := 19) 3 k_fm_leak_19 rfl (by decide) rfl ?_
        show mT g me_fm_leak (d + 3) 0 0 20 [some (vr 10 0), some (vi x1), some (vi x2), some (vi (-4 : Int32)), none] [] h _
        refine tr_iload_n (pc := 20) 3 k_fm_leak_20 rfl rfl ?_
        refine tr_if_eq (pc := 21) 30 k_fm_leak_21 (by decide) (fun q => absurd q (by decide)) (fun _ => ?_)
        refine tr_aload_n (pc := 24) 0 k_fm_leak_24 rfl rfl ?_
        refine tr_iload_n (pc := 25) 3 k_fm_leak_25 rfl rfl ?_
        have hT := hv
        clear hv
        refine tr_callV (pc := 26) (d' := d + 2) (mc' := 0) (ms' := 0) [vi (-4 : Int32)] k_fm_leak_26 ca_fm_refuse ml_fm_133 ii_fm_refuse ⟨by decide, rfl⟩ pa_fm_refuse (by omega) (by omega) (by omega) rfl (Nat.le_of_ble_eq_true rfl) (Nat.le_of_ble_eq_true rfl) hT (fun v h9 hv => ?_)
        clear hT
        obtain ⟨y8, rfl, hv⟩ := hv
        obtain ⟨h7, eh⟩ : ∃ z, z = h9 := ⟨_, rfl⟩
        subst eh
        obtain ⟨hskh7, hv⟩ := hv
        show mT g me_fm_leak (d + 3) 0 0 29 [some (vr 10 0), some (vi x1), some (vi x2), some (vi (-4 : Int32)), none] [vi y8] h7 _
        refine tr_ireturn (pc := 29) k_fm_leak_29 rfl rfl ?_
        exact hv
theorem v_fm_flow_0 {g : mG} {d : Nat} (x1 : Int32) {h : mH} {Q : Option mV → mH → Prop} (hsk : mSK h) (hv : ((x1 < 0 → mT g me_fm_refuse (d + 2) 0 0 0 [some (vr 10 0), some (vi (-1 : Int32))] [] h (fun v h1 => ∃ y2, v = some (vi y2) ∧ mSK h1 ∧ Q (some (vi y2)) h1)) ∧ (¬ x1 < 0 → (((hI h 10 0 3) ≤ x1 → mT g me_fm_refuse (d + 2) 0 0 0 [some (vr 10 0), some (vi (-1 : Int32))] [] h (fun v h3 => ∃ y4, v = some (vi y4) ∧ mSK h3 ∧ Q (some (vi y4)) h3)) ∧ (¬ (hI h 10 0 3) ≤ x1 → mT g me_fm_sees (d + 2) 0 0 0 [some (vr 10 0)] [] h (fun v h5 => v = none ∧ mSK h5 ∧ (vp_in x1 30 ∧ Q (some (vi (hI h5 11 29 x1.toNatClampNeg))) h5))))))) : mT g me_fm_flow (d + 3) 0 0 0 [some (vr 10 0), some (vi x1)] [] h Q := by
  refine tr_aload_n (pc := 0) 0 k_fm_flow_0 rfl rfl ?_
  refine tr_iload_n (pc := 1) 1 k_fm_flow_1 rfl rfl ?_
  refine tr_callV (pc := 2) (d' := d + 2) (mc' := 0) (ms' := 0) [vi x1] k_fm_flow_2 ca_fm_isJoint ml_fm_161 ii_fm_isJoint ⟨by decide, rfl⟩ pa_fm_isJoint (by omega) (by omega) (by omega) rfl (Nat.le_of_ble_eq_true rfl) (Nat.le_of_ble_eq_true rfl) (Qk := fun v h9 => mT g me_fm_flow (d + 3) 0 0 5 [some (vr 10 0), some (vi x1)] (v.toList ++ []) h9 _) ?_ (fun _ _ z => z)
  show mT g me_fm_isJoint (d + 2) 0 0 0 [some (vr 10 0), some (vi x1)] [] h _
  refine tr_iload_n (pc := 0) 1 k_fm_isJoint_0 rfl rfl ?_
  refine tr_aload_n (pc := 1) 0 k_fm_isJoint_1 rfl rfl ?_
  refine tr_getIx (pc := 2) k_fm_isJoint_2 fl_fm_155 rfl rfl ?_
  refine tr_callS (pc := 5) (d' := d + 1) (mc' := 0) (ms' := 0) [vi x1, vi (hI h 10 0 3)] k_fm_isJoint_5 ca_fm_isIn ml_fm_144 is_fm_isIn pa_fm_isIn (by omega) (by omega) (by omega) rfl (Nat.le_of_ble_eq_true rfl) (Nat.le_of_ble_eq_true rfl) (Qk := fun v h9 => mT g me_fm_isJoint (d + 2) 0 0 8 [some (vr 10 0), some (vi x1)] (v.toList ++ []) h9 _) ?_ (fun _ _ z => z)
  show mT g me_fm_isIn (d + 1) 0 0 0 [some (vi x1), some (vi (hI h 10 0 3))] [] h _
  refine tr_iload_n (pc := 0) 0 k_fm_isIn_0 rfl rfl ?_
  refine tr_if_lt (pc := 1) 13 k_fm_isIn_1 (by decide) (fun q => ?_) (fun q => ?_)
  · replace hv := hv.1 q
    refine tr_iconst (pc := 13) (v := 0) k_fm_isIn_13 (by decide) ?_
    refine tr_ireturn (pc := 14) k_fm_isIn_14 rfl rfl ?_
    show mT g me_fm_isJoint (d + 2) 0 0 8 [some (vr 10 0), some (vi x1)] [vi (0 : Int32)] h _
    refine tr_ireturn (pc := 8) k_fm_isJoint_8 rfl rfl ?_
    show mT g me_fm_flow (d + 3) 0 0 5 [some (vr 10 0), some (vi x1)] [vi (0 : Int32)] h _
    refine tr_if_ne (pc := 5) 14 k_fm_flow_5 (by decide) (fun q => absurd q (by decide)) (fun _ => ?_)
    refine tr_aload_n (pc := 8) 0 k_fm_flow_8 rfl rfl ?_
    refine tr_iconst (pc := 9) (v := -1) k_fm_flow_9 (by decide) ?_
    have hT := hv
    clear hv
    refine tr_callV (pc := 10) (d' := d + 2) (mc' := 0) (ms' := 0) [vi (-1 : Int32)] k_fm_flow_10 ca_fm_refuse ml_fm_133 ii_fm_refuse ⟨by decide, rfl⟩ pa_fm_refuse (by omega) (by omega) (by omega) rfl (Nat.le_of_ble_eq_true rfl) (Nat.le_of_ble_eq_true rfl) hT (fun v h9 hv => ?_)
    clear hT
    obtain ⟨y2, rfl, hv⟩ := hv
    obtain ⟨h1, eh⟩ : ∃ z, z = h9 := ⟨_, rfl⟩
    subst eh
    obtain ⟨hskh1, hv⟩ := hv
    show mT g me_fm_flow (d + 3) 0 0 13 [some (vr 10 0), some (vi x1)] [vi y2] h1 _
    refine tr_ireturn (pc := 13) k_fm_flow_13 rfl rfl ?_
    exact hv
  · replace hv := hv.2 q
    refine tr_iload_n (pc := 4) 0 k_fm_isIn_4 rfl rfl ?_
    refine tr_iload_n (pc := 5) 1 k_fm_isIn_5 rfl rfl ?_
    refine tr_icmp_ge (pc := 6) 13 k_fm_isIn_6 (by decide) (fun q => ?_) (fun q => ?_)
    · replace hv := hv.1 q
      refine tr_iconst (pc := 13) (v := 0) k_fm_isIn_13 (by decide) ?_
      refine tr_ireturn (pc := 14) k_fm_isIn_14 rfl rfl ?_
      show mT g me_fm_isJoint (d + 2) 0 0 8 [some (vr 10 0), some (vi x1)] [vi (0 : Int32)] h _
      refine tr_ireturn (pc := 8) k_fm_isJoint_8 rfl rfl ?_
      show mT g me_fm_flow (d + 3) 0 0 5 [some (vr 10 0), some (vi x1)] [vi (0 : Int32)] h _
      refine tr_if_ne (pc := 5) 14 k_fm_flow_5 (by decide) (fun q => absurd q (by decide)) (fun _ => ?_)
      refine tr_aload_n (pc := 8) 0 k_fm_flow_8 rfl rfl ?_
      refine tr_iconst (pc := 9) (v := -1) k_fm_flow_9 (by decide) ?_
      have hT := hv
      clear hv
      refine tr_callV (pc := 10) (d' := d + 2) (mc' := 0) (ms' := 0) [vi (-1 : Int32)] k_fm_flow_10 ca_fm_refuse ml_fm_133 ii_fm_refuse ⟨by decide, rfl⟩ pa_fm_refuse (by omega) (by omega) (by omega) rfl (Nat.le_of_ble_eq_true rfl) (Nat.le_of_ble_eq_true rfl) hT (fun v h9 hv => ?_)
      clear hT
      obtain ⟨y4, rfl, hv⟩ := hv
      obtain ⟨h3, eh⟩ : ∃ z, z = h9 := ⟨_, rfl⟩
      subst eh
      obtain ⟨hskh3, hv⟩ := hv
      show mT g me_fm_flow (d + 3) 0 0 13 [some (vr 10 0), some (vi x1)] [vi y4] h3 _
      refine tr_ireturn (pc := 13) k_fm_flow_13 rfl rfl ?_
      exact hv
    · replace hv := hv.2 q
      refine tr_iconst (pc := 9) (v := 1) k_fm_isIn_9 (by decide) ?_
      refine tr_goto (pc := 10) 14 k_fm_isIn_10 (by decide) ?_
      refine tr_ireturn (pc := 14) k_fm_isIn_14 rfl rfl ?_
      show mT g me_fm_isJoint (d + 2) 0 0 8 [some (vr 10 0), some (vi x1)] [vi (1 : Int32)] h _
      refine tr_ireturn (pc := 8) k_fm_isJoint_8 rfl rfl ?_
      show mT g me_fm_flow (d + 3) 0 0 5 [some (vr 10 0), some (vi x1)] [vi (1 : Int32)] h _
      refine tr_if_ne (pc := 5) 14 k_fm_flow_5 (by decide) (fun _ => ?_) (fun q => absurd q (by decide))
      refine tr_aload_n (pc := 14) 0 k_fm_flow_14 rfl rfl ?_
      have hT := hv
      clear hv
      refine tr_callV (pc := 15) (d' := d + 2) (mc' := 0) (ms' := 0) [] k_fm_flow_15 ca_fm_sees ml_fm_179 ii_fm_sees ⟨by decide, rfl⟩ pa_fm_sees (by omega) (by omega) (by omega) rfl (Nat.le_of_ble_eq_true rfl) (Nat.le_of_ble_eq_true rfl) hT (fun v h9 hv => ?_)
      clear hT
      obtain ⟨rfl, hv⟩ := hv
      obtain ⟨h5, eh⟩ : ∃ z, z = h9 := ⟨_, rfl⟩
      subst eh
      obtain ⟨hskh5, hv⟩ := hv
      show mT g me_fm_flow (d + 3) 0 0 18 [some (vr 10 0), some (vi x1)] [] h5 _
      refine tr_aload_n (pc := 18) 0 k_fm_flow_18 rfl rfl ?_
      refine tr_getP (pc := 19) k_fm_flow_19 fl_fm_90 rfl (Eq.trans rfl (hskh5.1 10 32 _ rfl)) ?_
      refine tr_iload_n (pc := 22) 1 k_fm_flow_22 rfl rfl ?_
      refine tr_ialdx (pc := 23) k_fm_flow_23 (mvin (hskh5.2.1 11 29 _ rfl) hv.1) rfl ?_
      replace hv := hv.2
      refine tr_ireturn (pc := 24) k_fm_flow_24 rfl rfl ?_
      exact hv
theorem v_fm_sees_0 {g : mG} {d : Nat}  {h : mH} {Q : Option mV → mH → Prop} (hsk : mSK h) (hv : mT g me_fm_asItIs (d + 1) 0 0 0 [some (vr 10 0), none] [] h (fun v h1 => v = none ∧ mSK h1 ∧ mT g me_fm_runs (d + 1) 0 0 0 [some (vr 10 0), none, none, none] [] h1 (fun v h2 => v = none ∧ mSK h2 ∧ Q none h2))) : mT g me_fm_sees (d + 2) 0 0 0 [some (vr 10 0)] [] h Q := by
  refine tr_aload_n (pc := 0) 0 k_fm_sees_0 rfl rfl ?_
  have hT := hv
  clear hv
  refine tr_callV (pc := 1) (d' := d + 1) (mc' := 0) (ms' := 0) [] k_fm_sees_1 ca_fm_asItIs ml_fm_173 ii_fm_asItIs ⟨by decide, rfl⟩ pa_fm_asItIs (by omega) (by omega) (by omega) rfl (Nat.le_of_ble_eq_true rfl) (Nat.le_of_ble_eq_true rfl) hT (fun v h9 hv => ?_)
  clear hT
  obtain ⟨rfl, hv⟩ := hv
  obtain ⟨h1, eh⟩ : ∃ z, z = h9 := ⟨_, rfl⟩
  subst eh
  obtain ⟨hskh1, hv⟩ := hv
  show mT g me_fm_sees (d + 2) 0 0 4 [some (vr 10 0)] [] h1 _
  refine tr_aload_n (pc := 4) 0 k_fm_sees_4 rfl rfl ?_
  have hT := hv
  clear hv
  refine tr_callV (pc := 5) (d' := d + 1) (mc' := 0) (ms' := 0) [] k_fm_sees_5 ca_fm_runs ml_fm_176 ii_fm_runs ⟨by decide, rfl⟩ pa_fm_runs (by omega) (by omega) (by omega) rfl (Nat.le_of_ble_eq_true rfl) (Nat.le_of_ble_eq_true rfl) hT (fun v h9 hv => ?_)
  clear hT
  obtain ⟨rfl, hv⟩ := hv
  obtain ⟨h2, eh⟩ : ∃ z, z = h9 := ⟨_, rfl⟩
  subst eh
  obtain ⟨hskh2, hv⟩ := hv
  show mT g me_fm_sees (d + 2) 0 0 8 [some (vr 10 0)] [] h2 _
  refine tr_return (pc := 8) k_fm_sees_8 rfl ?_
  exact hv
theorem v_fm_asItIs_0 {g : mG} {d : Nat}  {h : mH} {Q : Option mV → mH → Prop} (hsk : mSK h) (hv : mT g me_fm_asItIs (d + 1) 0 0 2 [some (vr 10 0), some (vi (0 : Int32))] [] h Q) : mT g me_fm_asItIs (d + 1) 0 0 0 [some (vr 10 0), none] [] h Q := by
  refine tr_iconst (pc := 0) (v := 0) k_fm_asItIs_0 (by decide) ?_
  refine tr_istore_n (pc := 1) 1 k_fm_asItIs_1 rfl (by decide) rfl ?_
  show mT g me_fm_asItIs (d + 1) 0 0 2 [some (vr 10 0), some (vi (0 : Int32))] [] h _
  exact hv
theorem v_fm_asItIs_2 {g : mG} {d : Nat} (x1 : Int32) {h : mH} {Q : Option mV → mH → Prop} (hsk : mSK h) (hv : (((hI h 10 0 3) ≤ x1 → mT g me_fm_asItIs (d + 1) 0 0 30 [some (vr 10 0), some (vi (0 : Int32))] [] h Q) ∧ (¬ (hI h 10 0 3) ≤ x1 → (vp_in x1 30 ∧ (vp_in x1 30 ∧ mT g me_fm_asItIs (d + 1) 0 0 2 [some (vr 10 0), some (vi (x1 + 1))] [] (setI h 11 28 x1.toNatClampNeg (hI h 11 19 x1.toNatClampNeg)) Q))))) : mT g me_fm_asItIs (d + 1) 0 0 2 [some (vr 10 0), some (vi x1)] [] h Q := by
  refine tr_iload_n (pc := 2) 1 k_fm_asItIs_2 rfl rfl ?_
  refine tr_aload_n (pc := 3) 0 k_fm_asItIs_3 rfl rfl ?_
  refine tr_getIx (pc := 4) k_fm_asItIs_4 fl_fm_155 rfl rfl ?_
  refine tr_icmp_ge (pc := 7) 28 k_fm_asItIs_7 (by decide) (fun q => ?_) (fun q => ?_)
  · replace hv := hv.1 q
    refine tr_iconst (pc := 28) (v := 0) k_fm_asItIs_28 (by decide) ?_
    refine tr_istore_n (pc := 29) 1 k_fm_asItIs_29 rfl (by decide) rfl ?_
    show mT g me_fm_asItIs (d + 1) 0 0 30 [some (vr 10 0), some (vi (0 : Int32))] [] h _
    exact hv
  · replace hv := hv.2 q
    refine tr_aload_n (pc := 10) 0 k_fm_asItIs_10 rfl rfl ?_
    refine tr_getP (pc := 11) k_fm_asItIs_11 fl_fm_87 rfl (Eq.trans rfl (hsk.1 10 31 _ rfl)) ?_
    refine tr_iload_n (pc := 14) 1 k_fm_asItIs_14 rfl rfl ?_
    refine tr_aload_n (pc := 15) 0 k_fm_asItIs_15 rfl rfl ?_
    refine tr_getP (pc := 16) k_fm_asItIs_16 fl_fm_53 rfl (Eq.trans rfl (hsk.1 10 20 _ rfl)) ?_
    refine tr_iload_n (pc := 19) 1 k_fm_asItIs_19 rfl rfl ?_
    refine tr_ialdx (pc := 20) k_fm_asItIs_20 (mvin (hsk.2.1 11 19 _ rfl) hv.1) rfl ?_
    replace hv := hv.2
    refine tr_iast (pc := 21) k_fm_asItIs_21 (mvin (hsk.2.1 11 28 _ rfl) hv.1) ?_
    replace hv := hv.2
    refine tr_iinc (pc := 22) (v := (x1 + 1)) k_fm_asItIs_22 rfl rfl (by decide) rfl ?_
    show mT g me_fm_asItIs (d + 1) 0 0 25 [some (vr 10 0), some (vi (x1 + 1))] [] (setI h 11 28 x1.toNatClampNeg (hI h 11 19 x1.toNatClampNeg)) _
    refine tr_goto (pc := 25) 2 k_fm_asItIs_25 (by decide) ?_
    exact hv
theorem v_fm_asItIs_30 {g : mG} {d : Nat} (x1 : Int32) {h : mH} {Q : Option mV → mH → Prop} (hsk : mSK h) (hv : (((hI h 10 0 4) ≤ x1 → mT g me_fm_asItIs (d + 1) 0 0 58 [some (vr 10 0), some (vi (0 : Int32))] [] h Q) ∧ (¬ (hI h 10 0 4) ≤ x1 → (vp_in x1 24 ∧ (vp_in x1 24 ∧ vp_nar .boolean (hI h 12 1 x1.toNatClampNeg) = (hI h 12 1 x1.toNatClampNeg) ∧ mT g me_fm_asItIs (d + 1) 0 0 30 [some (vr 10 0), some (vi (x1 + 1))] [] (setI h 12 2 x1.toNatClampNeg (hI h 12 1 x1.toNatClampNeg)) Q))))) : mT g me_fm_asItIs (d + 1) 0 0 30 [some (vr 10 0), some (vi x1)] [] h Q := by
  refine tr_iload_n (pc := 30) 1 k_fm_asItIs_30 rfl rfl ?_
  refine tr_aload_n (pc := 31) 0 k_fm_asItIs_31 rfl rfl ?_
  refine tr_getIx (pc := 32) k_fm_asItIs_32 fl_fm_158 rfl rfl ?_
  refine tr_icmp_ge (pc := 35) 56 k_fm_asItIs_35 (by decide) (fun q => ?_) (fun q => ?_)
  · replace hv := hv.1 q
    refine tr_iconst (pc := 56) (v := 0) k_fm_asItIs_56 (by decide) ?_
    refine tr_istore_n (pc := 57) 1 k_fm_asItIs_57 rfl (by decide) rfl ?_
    show mT g me_fm_asItIs (d + 1) 0 0 58 [some (vr 10 0), some (vi (0 : Int32))] [] h _
    exact hv
  · replace hv := hv.2 q
    refine tr_aload_n (pc := 38) 0 k_fm_asItIs_38 rfl rfl ?_
    refine tr_getP (pc := 39) k_fm_asItIs_39 fl_fm_108 rfl (Eq.trans rfl (hsk.1 10 38 _ rfl)) ?_
    refine tr_iload_n (pc := 42) 1 k_fm_asItIs_42 rfl rfl ?_
    refine tr_aload_n (pc := 43) 0 k_fm_asItIs_43 rfl rfl ?_
    refine tr_getP (pc := 44) k_fm_asItIs_44 fl_fm_72 rfl (Eq.trans rfl (hsk.1 10 26 _ rfl)) ?_
    refine tr_iload_n (pc := 47) 1 k_fm_asItIs_47 rfl rfl ?_
    refine tr_zaldx (pc := 48) k_fm_asItIs_48 (mvin (hsk.2.1 12 1 _ rfl) hv.1) rfl ?_
    replace hv := hv.2
    refine tr_zast (pc := 49) k_fm_asItIs_49 (mvin (hsk.2.1 12 2 _ rfl) hv.1) hv.2.1 ?_
    replace hv := hv.2.2
    refine tr_iinc (pc := 50) (v := (x1 + 1)) k_fm_asItIs_50 rfl rfl (by decide) rfl ?_
    show mT g me_fm_asItIs (d + 1) 0 0 53 [some (vr 10 0), some (vi (x1 + 1))] [] (setI h 12 2 x1.toNatClampNeg (hI h 12 1 x1.toNatClampNeg)) _
    refine tr_goto (pc := 53) 30 k_fm_asItIs_53 (by decide) ?_
    exact hv
theorem v_fm_asItIs_58 {g : mG} {d : Nat} (x1 : Int32) {h : mH} {Q : Option mV → mH → Prop} (hsk : mSK h) (hv : (((hI h 10 0 2) ≤ x1 → Q none h) ∧ (¬ (hI h 10 0 2) ≤ x1 → (vp_in x1 4 ∧ (vp_in x1 4 ∧ mT g me_fm_asItIs (d + 1) 0 0 58 [some (vr 10 0), some (vi (x1 + 1))] [] (setI h 11 33 x1.toNatClampNeg (hI h 11 11 x1.toNatClampNeg)) Q))))) : mT g me_fm_asItIs (d + 1) 0 0 58 [some (vr 10 0), some (vi x1)] [] h Q := by
  refine tr_iload_n (pc := 58) 1 k_fm_asItIs_58 rfl rfl ?_
  refine tr_aload_n (pc := 59) 0 k_fm_asItIs_59 rfl rfl ?_
  refine tr_getIx (pc := 60) k_fm_asItIs_60 fl_fm_141 rfl rfl ?_
  refine tr_icmp_ge (pc := 63) 84 k_fm_asItIs_63 (by decide) (fun q => ?_) (fun q => ?_)
  · replace hv := hv.1 q
    refine tr_return (pc := 84) k_fm_asItIs_84 rfl ?_
    exact hv
  · replace hv := hv.2 q
    refine tr_aload_n (pc := 66) 0 k_fm_asItIs_66 rfl rfl ?_
    refine tr_getP (pc := 67) k_fm_asItIs_67 fl_fm_102 rfl (Eq.trans rfl (hsk.1 10 36 _ rfl)) ?_
    refine tr_iload_n (pc := 70) 1 k_fm_asItIs_70 rfl rfl ?_
    refine tr_aload_n (pc := 71) 0 k_fm_asItIs_71 rfl rfl ?_
    refine tr_getP (pc := 72) k_fm_asItIs_72 fl_fm_29 rfl (Eq.trans rfl (hsk.1 10 12 _ rfl)) ?_
    refine tr_iload_n (pc := 75) 1 k_fm_asItIs_75 rfl rfl ?_
    refine tr_ialdx (pc := 76) k_fm_asItIs_76 (mvin (hsk.2.1 11 11 _ rfl) hv.1) rfl ?_
    replace hv := hv.2
    refine tr_iast (pc := 77) k_fm_asItIs_77 (mvin (hsk.2.1 11 33 _ rfl) hv.1) ?_
    replace hv := hv.2
    refine tr_iinc (pc := 78) (v := (x1 + 1)) k_fm_asItIs_78 rfl rfl (by decide) rfl ?_
    show mT g me_fm_asItIs (d + 1) 0 0 81 [some (vr 10 0), some (vi (x1 + 1))] [] (setI h 11 33 x1.toNatClampNeg (hI h 11 11 x1.toNatClampNeg)) _
    refine tr_goto (pc := 81) 58 k_fm_asItIs_81 (by decide) ?_
    exact hv
theorem v_fm_runs_0 {g : mG} {d : Nat}  {h : mH} {Q : Option mV → mH → Prop} (hsk : mSK h) (hv : mT g me_fm_runs (d + 1) 0 0 2 [some (vr 10 0), some (vi (0 : Int32)), none, none] [] h Q) : mT g me_fm_runs (d + 1) 0 0 0 [some (vr 10 0), none, none, none] [] h Q := by
  refine tr_iconst (pc := 0) (v := 0) k_fm_runs_0 (by decide) ?_
  refine tr_istore_n (pc := 1) 1 k_fm_runs_1 rfl (by decide) rfl ?_
  show mT g me_fm_runs (d + 1) 0 0 2 [some (vr 10 0), some (vi (0 : Int32)), none, none] [] h _
  exact hv
theorem v_fm_runs_2 {g : mG} {d : Nat} (x1 : Int32) (o2 : Option mV) (o3 : Option mV) {h : mH} {Q : Option mV → mH → Prop} (hsk : mSK h) (hv : (((hI h 10 0 2) ≤ x1 → mT g me_fm_runs (d + 1) 0 0 25 [some (vr 10 0), some (vi (0 : Int32)), o2, o3] [] h Q) ∧ (¬ (hI h 10 0 2) ≤ x1 → (vp_in x1 4 ∧ mT g me_fm_runs (d + 1) 0 0 2 [some (vr 10 0), some (vi (x1 + 1)), o2, o3] [] (setI h 11 34 x1.toNatClampNeg (0 : Int32)) Q)))) : mT g me_fm_runs (d + 1) 0 0 2 [some (vr 10 0), some (vi x1), o2, o3] [] h Q := by
  refine tr_iload_n (pc := 2) 1 k_fm_runs_2 rfl rfl ?_
  refine tr_aload_n (pc := 3) 0 k_fm_runs_3 rfl rfl ?_
  refine tr_getIx (pc := 4) k_fm_runs_4 fl_fm_141 rfl rfl ?_
  refine tr_icmp_ge (pc := 7) 23 k_fm_runs_7 (by decide) (fun q => ?_) (fun q => ?_)
  · replace hv := hv.1 q
    refine tr_iconst (pc := 23) (v := 0) k_fm_runs_23 (by decide) ?_
    refine tr_istore_n (pc := 24) 1 k_fm_runs_24 rfl (by decide) rfl ?_
    show mT g me_fm_runs (d + 1) 0 0 25 [some (vr 10 0), some (vi (0 : Int32)), o2, o3] [] h _
    exact hv
  · replace hv := hv.2 q
    refine tr_aload_n (pc := 10) 0 k_fm_runs_10 rfl rfl ?_
    refine tr_getP (pc := 11) k_fm_runs_11 fl_fm_105 rfl (Eq.trans rfl (hsk.1 10 37 _ rfl)) ?_
    refine tr_iload_n (pc := 14) 1 k_fm_runs_14 rfl rfl ?_
    refine tr_iconst (pc := 15) (v := 0) k_fm_runs_15 (by decide) ?_
    refine tr_iast (pc := 16) k_fm_runs_16 (mvin (hsk.2.1 11 34 _ rfl) hv.1) ?_
    replace hv := hv.2
    refine tr_iinc (pc := 17) (v := (x1 + 1)) k_fm_runs_17 rfl rfl (by decide) rfl ?_
    show mT g me_fm_runs (d + 1) 0 0 20 [some (vr 10 0), some (vi (x1 + 1)), o2, o3] [] (setI h 11 34 x1.toNatClampNeg (0 : Int32)) _
    refine tr_goto (pc := 20) 2 k_fm_runs_20 (by decide) ?_
    exact hv
theorem v_fm_runs_25 {g : mG} {d : Nat} (x1 : Int32) (o2 : Option mV) (o3 : Option mV) {h : mH} {Q : Option mV → mH → Prop} (hsk : mSK h) (hv : (((hI h 10 0 3) ≤ x1 → mT g me_fm_runs (d + 1) 0 0 53 [some (vr 10 0), some (vi ((hI h 10 0 3) - (1 : Int32))), o2, o3] [] h Q) ∧ (¬ (hI h 10 0 3) ≤ x1 → (vp_in x1 30 ∧ mT g me_fm_runs (d + 1) 0 0 25 [some (vr 10 0), some (vi (x1 + 1)), o2, o3] [] (setI h 11 29 x1.toNatClampNeg (0 : Int32)) Q)))) : mT g me_fm_runs (d + 1) 0 0 25 [some (vr 10 0), some (vi x1), o2, o3] [] h Q := by
  refine tr_iload_n (pc := 25) 1 k_fm_runs_25 rfl rfl ?_
  refine tr_aload_n (pc := 26) 0 k_fm_runs_26 rfl rfl ?_
  refine tr_getIx (pc := 27) k_fm_runs_27 fl_fm_155 rfl rfl ?_
  refine tr_icmp_ge (pc := 30) 46 k_fm_runs_30 (by decide) (fun q => ?_) (fun q => ?_)
  · replace hv := hv.1 q
    refine tr_aload_n (pc := 46) 0 k_fm_runs_46 rfl rfl ?_
    refine tr_getIx (pc := 47) k_fm_runs_47 fl_fm_155 rfl rfl ?_
    refine tr_iconst (pc := 50) (v := 1) k_fm_runs_50 (by decide) ?_
    refine tr_isub (pc := 51) k_fm_runs_51 ?_
    refine tr_istore_n (pc := 52) 1 k_fm_runs_52 rfl (by decide) rfl ?_
    show mT g me_fm_runs (d + 1) 0 0 53 [some (vr 10 0), some (vi ((hI h 10 0 3) - (1 : Int32))), o2, o3] [] h _
    exact hv
  · replace hv := hv.2 q
    refine tr_aload_n (pc := 33) 0 k_fm_runs_33 rfl rfl ?_
    refine tr_getP (pc := 34) k_fm_runs_34 fl_fm_90 rfl (Eq.trans rfl (hsk.1 10 32 _ rfl)) ?_
    refine tr_iload_n (pc := 37) 1 k_fm_runs_37 rfl rfl ?_
    refine tr_iconst (pc := 38) (v := 0) k_fm_runs_38 (by decide) ?_
    refine tr_iast (pc := 39) k_fm_runs_39 (mvin (hsk.2.1 11 29 _ rfl) hv.1) ?_
    replace hv := hv.2
    refine tr_iinc (pc := 40) (v := (x1 + 1)) k_fm_runs_40 rfl rfl (by decide) rfl ?_
    show mT g me_fm_runs (d + 1) 0 0 43 [some (vr 10 0), some (vi (x1 + 1)), o2, o3] [] (setI h 11 29 x1.toNatClampNeg (0 : Int32)) _
    refine tr_goto (pc := 43) 25 k_fm_runs_43 (by decide) ?_
    exact hv
