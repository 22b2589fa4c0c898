theorem ziX0 : ∀ w ∈ u_ws RX0 TX0 3, w ∈ zTb := zTb_all _ [182, 184, 186] (by decide +kernel) (by decide +kernel)
theorem ziX1 : ∀ w ∈ u_ws RX1 TX1 4, w ∈ zTb := zTb_all _ [200, 202, 204, 206] (by decide +kernel) (by decide +kernel)
theorem ziX2 : ∀ w ∈ u_ws RX2 TX2 4, w ∈ zTb := zTb_all _ [160, 162, 164, 166] (by decide +kernel) (by decide +kernel)
theorem ziX3 : ∀ w ∈ u_ws RX3 TX3 3, w ∈ zTb := zTb_all _ [108, 110, 112] (by decide +kernel) (by decide +kernel)
theorem ziX4 : ∀ w ∈ u_ws RX4 TX4 2, w ∈ zTb := zTb_all _ [144, 146] (by decide +kernel) (by decide +kernel)
theorem ziX5 : ∀ w ∈ u_ws RX5 TX5 2, w ∈ zTb := zTb_all _ [134, 136] (by decide +kernel) (by decide +kernel)
theorem ziX6 : ∀ w ∈ u_ws RX6 TX6 5, w ∈ zTb := zTb_all _ [85, 87, 89, 91, 93] (by decide +kernel) (by decide +kernel)
theorem ziX7 : ∀ w ∈ u_ws RX7 TX7 8, w ∈ zTb := zTb_all _ [217, 219, 221, 223, 225, 227, 229, 231] (by decide +kernel) (by decide +kernel)
theorem ziX8 : ∀ w ∈ u_ws RX8 TX8 29, w ∈ zTb := zTb_all _ [648, 650, 652, 654, 656, 658, 660, 662, 664, 666, 668, 670, 672, 674, 676, 678, 680, 682, 684, 686, 688, 690, 692, 694, 696, 698, 700, 702, 704] (by decide +kernel) (by decide +kernel)
def zfJ6 : List (Nat × Nat × Nat × Bool) := []
theorem zfJ6_ok : ∀ q ∈ zfJ6, zFT RJ6 q := fun _ h => absurd h List.not_mem_nil
def zgJ6 : List (Nat × Nat) := []
theorem zgJ6_ok : ∀ q ∈ zgJ6, zGT RJ6 q := fun _ h => absurd h List.not_mem_nil
def znJ6 : List (Nat × Int32) := [(265, 1431655765), (266, 858993459), (267, 252645135)]
theorem znJ6_ok : ∀ q ∈ znJ6, Cond.constant RJ6 q.1 q.2 ∈ zTb := List.forall_mem_cons.mpr ⟨zTb_in 602 (by decide +kernel) (by decide +kernel), List.forall_mem_cons.mpr ⟨zTb_in 603 (by decide +kernel) (by decide +kernel), List.forall_mem_cons.mpr ⟨zTb_in 604 (by decide +kernel) (by decide +kernel), fun _ h => absurd h List.not_mem_nil⟩⟩⟩
def zoJ6 : List (Nat × Int64) := []
theorem zoJ6_ok : ∀ q ∈ zoJ6, Cond.constantLong RJ6 q.1 q.2 ∈ zTb := fun _ h => absurd h List.not_mem_nil
def zfJ7 : List (Nat × Nat × Nat × Bool) := []
theorem zfJ7_ok : ∀ q ∈ zfJ7, zFT RJ7 q := fun _ h => absurd h List.not_mem_nil
def zgJ7 : List (Nat × Nat) := []
theorem zgJ7_ok : ∀ q ∈ zgJ7, zGT RJ7 q := fun _ h => absurd h List.not_mem_nil
def znJ7 : List (Nat × Int32) := []
theorem znJ7_ok : ∀ q ∈ znJ7, Cond.constant RJ7 q.1 q.2 ∈ zTb := fun _ h => absurd h List.not_mem_nil
def zoJ7 : List (Nat × Int64) := []
theorem zoJ7_ok : ∀ q ∈ zoJ7, Cond.constantLong RJ7 q.1 q.2 ∈ zTb := fun _ h => absurd h List.not_mem_nil
def zfJ9 : List (Nat × Nat × Nat × Bool) := []
theorem zfJ9_ok : ∀ q ∈ zfJ9, zFT RJ9 q := fun _ h => absurd h List.not_mem_nil
def zgJ9 : List (Nat × Nat) := []
theorem zgJ9_ok : ∀ q ∈ zgJ9, zGT RJ9 q := fun _ h => absurd h List.not_mem_nil
def znJ9 : List (Nat × Int32) := []
theorem znJ9_ok : ∀ q ∈ znJ9, Cond.constant RJ9 q.1 q.2 ∈ zTb := fun _ h => absurd h List.not_mem_nil
def zoJ9 : List (Nat × Int64) := []
theorem zoJ9_ok : ∀ q ∈ zoJ9, Cond.constantLong RJ9 q.1 q.2 ∈ zTb := fun _ h => absurd h List.not_mem_nil
def zfX0 : List (Nat × Nat × Nat × Bool) := [(9, 0, 1, false), (15, 0, 2, false), (18, 0, 0, false), (34, 4, 1, false), (38, 5, 1, true)]
theorem zfX0_ok : ∀ q ∈ zfX0, zFT RX0 q := List.forall_mem_cons.mpr ⟨⟨_, _, _, tyX0, rfl, by decide, ziX0, zTb_in 179 (by decide +kernel) (by decide +kernel), tyX0_ok, nmX0, fun h => by cases h⟩,
  List.forall_mem_cons.mpr ⟨⟨_, _, _, tyX0, rfl, by decide, ziX0, zTb_in 181 (by decide +kernel) (by decide +kernel), tyX0_ok, nmX0, fun h => by cases h⟩,
  List.forall_mem_cons.mpr ⟨⟨_, _, _, tyX0, rfl, by decide, ziX0, zTb_in 178 (by decide +kernel) (by decide +kernel), tyX0_ok, nmX0, fun h => by cases h⟩,
  List.forall_mem_cons.mpr ⟨⟨_, _, _, tyX4, rfl, by decide, ziX4, zTb_in 141 (by decide +kernel) (by decide +kernel), tyX4_ok, nmX4, fun h => by cases h⟩,
  List.forall_mem_cons.mpr ⟨⟨_, _, _, tyX5, rfl, by decide, ziX5, zTb_in 130 (by decide +kernel) (by decide +kernel), tyX5_ok, nmX5, fun _ => ⟨rfl, rfl⟩⟩,
  fun _ h => absurd h List.not_mem_nil⟩⟩⟩⟩⟩
def zgX0 : List (Nat × Nat) := []
theorem zgX0_ok : ∀ q ∈ zgX0, zGT RX0 q := fun _ h => absurd h List.not_mem_nil
def znX0 : List (Nat × Int32) := []
theorem znX0_ok : ∀ q ∈ znX0, Cond.constant RX0 q.1 q.2 ∈ zTb := fun _ h => absurd h List.not_mem_nil
def zoX0 : List (Nat × Int64) := []
theorem zoX0_ok : ∀ q ∈ zoX0, Cond.constantLong RX0 q.1 q.2 ∈ zTb := fun _ h => absurd h List.not_mem_nil
def zfX1 : List (Nat × Nat × Nat × Bool) := [(9, 1, 0, false), (15, 1, 1, false), (18, 1, 2, false), (21, 1, 3, true)]
theorem zfX1_ok : ∀ q ∈ zfX1, zFT RX1 q := List.forall_mem_cons.mpr ⟨⟨_, _, _, tyX1, rfl, by decide, ziX1, zTb_in 195 (by decide +kernel) (by decide +kernel), tyX1_ok, nmX1, fun h => by cases h⟩,
  List.forall_mem_cons.mpr ⟨⟨_, _, _, tyX1, rfl, by decide, ziX1, zTb_in 196 (by decide +kernel) (by decide +kernel), tyX1_ok, nmX1, fun h => by cases h⟩,
  List.forall_mem_cons.mpr ⟨⟨_, _, _, tyX1, rfl, by decide, ziX1, zTb_in 197 (by decide +kernel) (by decide +kernel), tyX1_ok, nmX1, fun h => by cases h⟩,
  List.forall_mem_cons.mpr ⟨⟨_, _, _, tyX1, rfl, by decide, ziX1, zTb_in 198 (by decide +kernel) (by decide +kernel), tyX1_ok, nmX1, fun _ => ⟨rfl, rfl⟩⟩,
  fun _ h => absurd h List.not_mem_nil⟩⟩⟩⟩
def zgX1 : List (Nat × Nat) := []
theorem zgX1_ok : ∀ q ∈ zgX1, zGT RX1 q := fun _ h => absurd h List.not_mem_nil
def znX1 : List (Nat × Int32) := []
theorem znX1_ok : ∀ q ∈ znX1, Cond.constant RX1 q.1 q.2 ∈ zTb := fun _ h => absurd h List.not_mem_nil
def zoX1 : List (Nat × Int64) := []
theorem zoX1_ok : ∀ q ∈ zoX1, Cond.constantLong RX1 q.1 q.2 ∈ zTb := fun _ h => absurd h List.not_mem_nil
def zfX2 : List (Nat × Nat × Nat × Bool) := [(9, 2, 1, false), (15, 2, 3, false), (18, 2, 0, false), (22, 2, 2, true), (26, 4, 1, false), (50, 5, 1, true)]
theorem zfX2_ok : ∀ q ∈ zfX2, zFT RX2 q := List.forall_mem_cons.mpr ⟨⟨_, _, _, tyX2, rfl, by decide, ziX2, zTb_in 156 (by decide +kernel) (by decide +kernel), tyX2_ok, nmX2, fun h => by cases h⟩,
  List.forall_mem_cons.mpr ⟨⟨_, _, _, tyX2, rfl, by decide, ziX2, zTb_in 159 (by decide +kernel) (by decide +kernel), tyX2_ok, nmX2, fun h => by cases h⟩,
  List.forall_mem_cons.mpr ⟨⟨_, _, _, tyX2, rfl, by decide, ziX2, zTb_in 155 (by decide +kernel) (by decide +kernel), tyX2_ok, nmX2, fun h => by cases h⟩,
  List.forall_mem_cons.mpr ⟨⟨_, _, _, tyX2, rfl, by decide, ziX2, zTb_in 157 (by decide +kernel) (by decide +kernel), tyX2_ok, nmX2, fun _ => ⟨rfl, rfl⟩⟩,
  List.forall_mem_cons.mpr ⟨⟨_, _, _, tyX4, rfl, by decide, ziX4, zTb_in 142 (by decide +kernel) (by decide +kernel), tyX4_ok, nmX4, fun h => by cases h⟩,
  List.forall_mem_cons.mpr ⟨⟨_, _, _, tyX5, rfl, by decide, ziX5, zTb_in 132 (by decide +kernel) (by decide +kernel), tyX5_ok, nmX5, fun _ => ⟨rfl, rfl⟩⟩,
  fun _ h => absurd h List.not_mem_nil⟩⟩⟩⟩⟩⟩
def zgX2 : List (Nat × Nat) := []
theorem zgX2_ok : ∀ q ∈ zgX2, zGT RX2 q := fun _ h => absurd h List.not_mem_nil
def znX2 : List (Nat × Int32) := [(62, 65535), (67, 6488064), (72, 65536)]
theorem znX2_ok : ∀ q ∈ znX2, Cond.constant RX2 q.1 q.2 ∈ zTb := List.forall_mem_cons.mpr ⟨zTb_in 486 (by decide +kernel) (by decide +kernel), List.forall_mem_cons.mpr ⟨zTb_in 479 (by decide +kernel) (by decide +kernel), List.forall_mem_cons.mpr ⟨zTb_in 484 (by decide +kernel) (by decide +kernel), fun _ h => absurd h List.not_mem_nil⟩⟩⟩
def zoX2 : List (Nat × Int64) := []
theorem zoX2_ok : ∀ q ∈ zoX2, Cond.constantLong RX2 q.1 q.2 ∈ zTb := fun _ h => absurd h List.not_mem_nil
def zfX3 : List (Nat × Nat × Nat × Bool) := [(9, 3, 1, false), (15, 3, 2, false), (18, 3, 0, false), (28, 6, 1, false)]
theorem zfX3_ok : ∀ q ∈ zfX3, zFT RX3 q := List.forall_mem_cons.mpr ⟨⟨_, _, _, tyX3, rfl, by decide, ziX3, zTb_in 105 (by decide +kernel) (by decide +kernel), tyX3_ok, nmX3, fun h => by cases h⟩,
  List.forall_mem_cons.mpr ⟨⟨_, _, _, tyX3, rfl, by decide, ziX3, zTb_in 107 (by decide +kernel) (by decide +kernel), tyX3_ok, nmX3, fun h => by cases h⟩,
  List.forall_mem_cons.mpr ⟨⟨_, _, _, tyX3, rfl, by decide, ziX3, zTb_in 104 (by decide +kernel) (by decide +kernel), tyX3_ok, nmX3, fun h => by cases h⟩,
  List.forall_mem_cons.mpr ⟨⟨_, _, _, tyX6, rfl, by decide, ziX6, zTb_in 75 (by decide +kernel) (by decide +kernel), tyX6_ok, nmX6, fun h => by cases h⟩,
  fun _ h => absurd h List.not_mem_nil⟩⟩⟩⟩
def zgX3 : List (Nat × Nat) := []
theorem zgX3_ok : ∀ q ∈ zgX3, zGT RX3 q := fun _ h => absurd h List.not_mem_nil
def znX3 : List (Nat × Int32) := []
theorem znX3_ok : ∀ q ∈ znX3, Cond.constant RX3 q.1 q.2 ∈ zTb := fun _ h => absurd h List.not_mem_nil
def zoX3 : List (Nat × Int64) := [(60, 2)]
theorem zoX3_ok : ∀ q ∈ zoX3, Cond.constantLong RX3 q.1 q.2 ∈ zTb := List.forall_mem_cons.mpr ⟨zTb_in 338 (by decide +kernel) (by decide +kernel), fun _ h => absurd h List.not_mem_nil⟩
def zfX4 : List (Nat × Nat × Nat × Bool) := [(12, 4, 1, false), (18, 4, 0, false), (31, 5, 1, true), (35, 6, 3, false), (39, 6, 4, false), (42, 6, 2, false), (67, 6, 1, false)]
theorem zfX4_ok : ∀ q ∈ zfX4, zFT RX4 q := List.forall_mem_cons.mpr ⟨⟨_, _, _, tyX4, rfl, by decide, ziX4, zTb_in 140 (by decide +kernel) (by decide +kernel), tyX4_ok, nmX4, fun h => by cases h⟩,
  List.forall_mem_cons.mpr ⟨⟨_, _, _, tyX4, rfl, by decide, ziX4, zTb_in 139 (by decide +kernel) (by decide +kernel), tyX4_ok, nmX4, fun h => by cases h⟩,
  List.forall_mem_cons.mpr ⟨⟨_, _, _, tyX5, rfl, by decide, ziX5, zTb_in 131 (by decide +kernel) (by decide +kernel), tyX5_ok, nmX5, fun _ => ⟨rfl, rfl⟩⟩,
  List.forall_mem_cons.mpr ⟨⟨_, _, _, tyX6, rfl, by decide, ziX6, zTb_in 81 (by decide +kernel) (by decide +kernel), tyX6_ok, nmX6, fun h => by cases h⟩,
  List.forall_mem_cons.mpr ⟨⟨_, _, _, tyX6, rfl, by decide, ziX6, zTb_in 84 (by decide +kernel) (by decide +kernel), tyX6_ok, nmX6, fun h => by cases h⟩,
  List.forall_mem_cons.mpr ⟨⟨_, _, _, tyX6, rfl, by decide, ziX6, zTb_in 79 (by decide +kernel) (by decide +kernel), tyX6_ok, nmX6, fun h => by cases h⟩,
  List.forall_mem_cons.mpr ⟨⟨_, _, _, tyX6, rfl, by decide, ziX6, zTb_in 77 (by decide +kernel) (by decide +kernel), tyX6_ok, nmX6, fun h => by cases h⟩,
  fun _ h => absurd h List.not_mem_nil⟩⟩⟩⟩⟩⟩⟩
def zgX4 : List (Nat × Nat) := [(64, 102)]
theorem zgX4_ok : ∀ q ∈ zgX4, zGT RX4 q := List.forall_mem_cons.mpr ⟨Or.inr <| Or.inr ⟨rfl, rfl⟩, fun _ h => absurd h List.not_mem_nil⟩
def znX4 : List (Nat × Int32) := []
theorem znX4_ok : ∀ q ∈ znX4, Cond.constant RX4 q.1 q.2 ∈ zTb := fun _ h => absurd h List.not_mem_nil
def zoX4 : List (Nat × Int64) := []
theorem zoX4_ok : ∀ q ∈ zoX4, Cond.constantLong RX4 q.1 q.2 ∈ zTb := fun _ h => absurd h List.not_mem_nil
def zfX5 : List (Nat × Nat × Nat × Bool) := [(9, 5, 0, false), (15, 5, 1, true)]
theorem zfX5_ok : ∀ q ∈ zfX5, zFT RX5 q := List.forall_mem_cons.mpr ⟨⟨_, _, _, tyX5, rfl, by decide, ziX5, zTb_in 128 (by decide +kernel) (by decide +kernel), tyX5_ok, nmX5, fun h => by cases h⟩,
  List.forall_mem_cons.mpr ⟨⟨_, _, _, tyX5, rfl, by decide, ziX5, zTb_in 129 (by decide +kernel) (by decide +kernel), tyX5_ok, nmX5, fun _ => ⟨rfl, rfl⟩⟩,
  fun _ h => absurd h List.not_mem_nil⟩⟩
def zgX5 : List (Nat × Nat) := []
theorem zgX5_ok : ∀ q ∈ zgX5, zGT RX5 q := fun _ h => absurd h List.not_mem_nil
def znX5 : List (Nat × Int32) := []
theorem znX5_ok : ∀ q ∈ znX5, Cond.constant RX5 q.1 q.2 ∈ zTb := fun _ h => absurd h List.not_mem_nil
def zoX5 : List (Nat × Int64) := []
theorem zoX5_ok : ∀ q ∈ zoX5, Cond.constantLong RX5 q.1 q.2 ∈ zTb := fun _ h => absurd h List.not_mem_nil
def zfX6 : List (Nat × Nat × Nat × Bool) := [(18, 6, 0, false), (26, 6, 1, false), (29, 6, 2, false), (32, 6, 3, false), (35, 6, 4, false)]
theorem zfX6_ok : ∀ q ∈ zfX6, zFT RX6 q := List.forall_mem_cons.mpr ⟨⟨_, _, _, tyX6, rfl, by decide, ziX6, zTb_in 73 (by decide +kernel) (by decide +kernel), tyX6_ok, nmX6, fun h => by cases h⟩,
  List.forall_mem_cons.mpr ⟨⟨_, _, _, tyX6, rfl, by decide, ziX6, zTb_in 74 (by decide +kernel) (by decide +kernel), tyX6_ok, nmX6, fun h => by cases h⟩,
  List.forall_mem_cons.mpr ⟨⟨_, _, _, tyX6, rfl, by decide, ziX6, zTb_in 78 (by decide +kernel) (by decide +kernel), tyX6_ok, nmX6, fun h => by cases h⟩,
  List.forall_mem_cons.mpr ⟨⟨_, _, _, tyX6, rfl, by decide, ziX6, zTb_in 80 (by decide +kernel) (by decide +kernel), tyX6_ok, nmX6, fun h => by cases h⟩,
  List.forall_mem_cons.mpr ⟨⟨_, _, _, tyX6, rfl, by decide, ziX6, zTb_in 83 (by decide +kernel) (by decide +kernel), tyX6_ok, nmX6, fun h => by cases h⟩,
  fun _ h => absurd h List.not_mem_nil⟩⟩⟩⟩⟩
def zgX6 : List (Nat × Nat) := []
theorem zgX6_ok : ∀ q ∈ zgX6, zGT RX6 q := fun _ h => absurd h List.not_mem_nil
def znX6 : List (Nat × Int32) := []
theorem znX6_ok : ∀ q ∈ znX6, Cond.constant RX6 q.1 q.2 ∈ zTb := fun _ h => absurd h List.not_mem_nil
def zoX6 : List (Nat × Int64) := []
theorem zoX6_ok : ∀ q ∈ zoX6, Cond.constantLong RX6 q.1 q.2 ∈ zTb := fun _ h => absurd h List.not_mem_nil
def zfX7 : List (Nat × Nat × Nat × Bool) := [(12, 7, 0, false), (16, 7, 1, false), (20, 7, 2, true), (29, 7, 3, false), (36, 7, 4, false), (45, 7, 5, false), (52, 7, 6, false), (59, 7, 7, false), (78, 6, 1, false), (114, 3, 1, false), (137, 6, 3, false), (151, 4, 1, false), (155, 5, 1, true), (167, 2, 2, true), (185, 0, 1, false), (212, 1, 3, true)]
theorem zfX7_ok : ∀ q ∈ zfX7, zFT RX7 q := List.forall_mem_cons.mpr ⟨⟨_, _, _, tyX7, rfl, by decide, ziX7, zTb_in 209 (by decide +kernel) (by decide +kernel), tyX7_ok, nmX7, fun h => by cases h⟩,
  List.forall_mem_cons.mpr ⟨⟨_, _, _, tyX7, rfl, by decide, ziX7, zTb_in 210 (by decide +kernel) (by decide +kernel), tyX7_ok, nmX7, fun h => by cases h⟩,
  List.forall_mem_cons.mpr ⟨⟨_, _, _, tyX7, rfl, by decide, ziX7, zTb_in 211 (by decide +kernel) (by decide +kernel), tyX7_ok, nmX7, fun _ => ⟨rfl, rfl⟩⟩,
  List.forall_mem_cons.mpr ⟨⟨_, _, _, tyX7, rfl, by decide, ziX7, zTb_in 212 (by decide +kernel) (by decide +kernel), tyX7_ok, nmX7, fun h => by cases h⟩,
  List.forall_mem_cons.mpr ⟨⟨_, _, _, tyX7, rfl, by decide, ziX7, zTb_in 213 (by decide +kernel) (by decide +kernel), tyX7_ok, nmX7, fun h => by cases h⟩,
  List.forall_mem_cons.mpr ⟨⟨_, _, _, tyX7, rfl, by decide, ziX7, zTb_in 214 (by decide +kernel) (by decide +kernel), tyX7_ok, nmX7, fun h => by cases h⟩,
  List.forall_mem_cons.mpr ⟨⟨_, _, _, tyX7, rfl, by decide, ziX7, zTb_in 215 (by decide +kernel) (by decide +kernel), tyX7_ok, nmX7, fun h => by cases h⟩,
  List.forall_mem_cons.mpr ⟨⟨_, _, _, tyX7, rfl, by decide, ziX7, zTb_in 216 (by decide +kernel) (by decide +kernel), tyX7_ok, nmX7, fun h => by cases h⟩,
  List.forall_mem_cons.mpr ⟨⟨_, _, _, tyX6, rfl, by decide, ziX6, zTb_in 76 (by decide +kernel) (by decide +kernel), tyX6_ok, nmX6, fun h => by cases h⟩,
  List.forall_mem_cons.mpr ⟨⟨_, _, _, tyX3, rfl, by decide, ziX3, zTb_in 106 (by decide +kernel) (by decide +kernel), tyX3_ok, nmX3, fun h => by cases h⟩,
  List.forall_mem_cons.mpr ⟨⟨_, _, _, tyX6, rfl, by decide, ziX6, zTb_in 82 (by decide +kernel) (by decide +kernel), tyX6_ok, nmX6, fun h => by cases h⟩,
  List.forall_mem_cons.mpr ⟨⟨_, _, _, tyX4, rfl, by decide, ziX4, zTb_in 143 (by decide +kernel) (by decide +kernel), tyX4_ok, nmX4, fun h => by cases h⟩,
  List.forall_mem_cons.mpr ⟨⟨_, _, _, tyX5, rfl, by decide, ziX5, zTb_in 133 (by decide +kernel) (by decide +kernel), tyX5_ok, nmX5, fun _ => ⟨rfl, rfl⟩⟩,
  List.forall_mem_cons.mpr ⟨⟨_, _, _, tyX2, rfl, by decide, ziX2, zTb_in 158 (by decide +kernel) (by decide +kernel), tyX2_ok, nmX2, fun _ => ⟨rfl, rfl⟩⟩,
  List.forall_mem_cons.mpr ⟨⟨_, _, _, tyX0, rfl, by decide, ziX0, zTb_in 180 (by decide +kernel) (by decide +kernel), tyX0_ok, nmX0, fun h => by cases h⟩,
  List.forall_mem_cons.mpr ⟨⟨_, _, _, tyX1, rfl, by decide, ziX1, zTb_in 199 (by decide +kernel) (by decide +kernel), tyX1_ok, nmX1, fun _ => ⟨rfl, rfl⟩⟩,
  fun _ h => absurd h List.not_mem_nil⟩⟩⟩⟩⟩⟩⟩⟩⟩⟩⟩⟩⟩⟩⟩⟩
def zgX7 : List (Nat × Nat) := [(71, 102), (75, 103)]
theorem zgX7_ok : ∀ q ∈ zgX7, zGT RX7 q := List.forall_mem_cons.mpr ⟨Or.inl ⟨rfl, zTb_in 250 (by decide +kernel) (by decide +kernel)⟩, List.forall_mem_cons.mpr ⟨Or.inr <| Or.inl ⟨rfl, zTb_in 252 (by decide +kernel) (by decide +kernel)⟩, fun _ h => absurd h List.not_mem_nil⟩⟩
def znX7 : List (Nat × Int32) := [(97, (-100000)), (122, (-1000000)), (224, 65535)]
theorem znX7_ok : ∀ q ∈ znX7, Cond.constant RX7 q.1 q.2 ∈ zTb := List.forall_mem_cons.mpr ⟨zTb_in 284 (by decide +kernel) (by decide +kernel), List.forall_mem_cons.mpr ⟨zTb_in 329 (by decide +kernel) (by decide +kernel), List.forall_mem_cons.mpr ⟨zTb_in 443 (by decide +kernel) (by decide +kernel), fun _ h => absurd h List.not_mem_nil⟩⟩⟩
def zoX7 : List (Nat × Int64) := [(112, (-1))]
theorem zoX7_ok : ∀ q ∈ zoX7, Cond.constantLong RX7 q.1 q.2 ∈ zTb := List.forall_mem_cons.mpr ⟨zTb_in 315 (by decide +kernel) (by decide +kernel), fun _ h => absurd h List.not_mem_nil⟩
def zfX8 : List (Nat × Nat × Nat × Bool) := [(7, 8, 0, false), (13, 8, 1, true), (17, 8, 3, true), (20, 8, 4, true), (23, 8, 5, true), (26, 8, 6, false), (29, 8, 7, false), (32, 8, 9, false), (35, 8, 10, false), (38, 8, 11, false), (41, 8, 12, false), (44, 8, 13, false), (47, 8, 15, false), (50, 8, 16, false), (53, 8, 17, false), (56, 8, 18, false), (60, 8, 19, false), (64, 8, 20, false), (67, 8, 22, false), (70, 8, 23, false), (73, 8, 24, false), (76, 8, 25, false), (79, 8, 26, false), (82, 8, 27, false), (93, 8, 2, true), (137, 8, 21, true), (154, 8, 8, true), (189, 8, 14, true), (192, 8, 28, true)]
theorem zfX8_ok : ∀ q ∈ zfX8, zFT RX8 q := List.forall_mem_cons.mpr ⟨⟨_, _, _, tyX8, rfl, by decide, ziX8, zTb_in 619 (by decide +kernel) (by decide +kernel), tyX8_ok, nmX8, fun h => by cases h⟩,
  List.forall_mem_cons.mpr ⟨⟨_, _, _, tyX8, rfl, by decide, ziX8, zTb_in 620 (by decide +kernel) (by decide +kernel), tyX8_ok, nmX8, fun _ => ⟨rfl, rfl⟩⟩,
  List.forall_mem_cons.mpr ⟨⟨_, _, _, tyX8, rfl, by decide, ziX8, zTb_in 622 (by decide +kernel) (by decide +kernel), tyX8_ok, nmX8, fun _ => ⟨rfl, rfl⟩⟩,
  List.forall_mem_cons.mpr ⟨⟨_, _, _, tyX8, rfl, by decide, ziX8, zTb_in 623 (by decide +kernel) (by decide +kernel), tyX8_ok, nmX8, fun _ => ⟨rfl, rfl⟩⟩,
  List.forall_mem_cons.mpr ⟨⟨_, _, _, tyX8, rfl, by decide, ziX8, zTb_in 624 (by decide +kernel) (by decide +kernel), tyX8_ok, nmX8, fun _ => ⟨rfl, rfl⟩⟩,
  List.forall_mem_cons.mpr ⟨⟨_, _, _, tyX8, rfl, by decide, ziX8, zTb_in 625 (by decide +kernel) (by decide +kernel), tyX8_ok, nmX8, fun h => by cases h⟩,
  List.forall_mem_cons.mpr ⟨⟨_, _, _, tyX8, rfl, by decide, ziX8, zTb_in 626 (by decide +kernel) (by decide +kernel), tyX8_ok, nmX8, fun h => by cases h⟩,
  List.forall_mem_cons.mpr ⟨⟨_, _, _, tyX8, rfl, by decide, ziX8, zTb_in 628 (by decide +kernel) (by decide +kernel), tyX8_ok, nmX8, fun h => by cases h⟩,
  List.forall_mem_cons.mpr ⟨⟨_, _, _, tyX8, rfl, by decide, ziX8, zTb_in 629 (by decide +kernel) (by decide +kernel), tyX8_ok, nmX8, fun h => by cases h⟩,
  List.forall_mem_cons.mpr ⟨⟨_, _, _, tyX8, rfl, by decide, ziX8, zTb_in 630 (by decide +kernel) (by decide +kernel), tyX8_ok, nmX8, fun h => by cases h⟩,
  List.forall_mem_cons.mpr ⟨⟨_, _, _, tyX8, rfl, by decide, ziX8, zTb_in 631 (by decide +kernel) (by decide +kernel), tyX8_ok, nmX8, fun h => by cases h⟩,
  List.forall_mem_cons.mpr ⟨⟨_, _, _, tyX8, rfl, by decide, ziX8, zTb_in 632 (by decide +kernel) (by decide +kernel), tyX8_ok, nmX8, fun h => by cases h⟩,
  List.forall_mem_cons.mpr ⟨⟨_, _, _, tyX8, rfl, by decide, ziX8, zTb_in 634 (by decide +kernel) (by decide +kernel), tyX8_ok, nmX8, fun h => by cases h⟩,
  List.forall_mem_cons.mpr ⟨⟨_, _, _, tyX8, rfl, by decide, ziX8, zTb_in 635 (by decide +kernel) (by decide +kernel), tyX8_ok, nmX8, fun h => by cases h⟩,
  List.forall_mem_cons.mpr ⟨⟨_, _, _, tyX8, rfl, by decide, ziX8, zTb_in 636 (by decide +kernel) (by decide +kernel), tyX8_ok, nmX8, fun h => by cases h⟩,
  List.forall_mem_cons.mpr ⟨⟨_, _, _, tyX8, rfl, by decide, ziX8, zTb_in 637 (by decide +kernel) (by decide +kernel), tyX8_ok, nmX8, fun h => by cases h⟩,
  List.forall_mem_cons.mpr ⟨⟨_, _, _, tyX8, rfl, by decide, ziX8, zTb_in 638 (by decide +kernel) (by decide +kernel), tyX8_ok, nmX8, fun h => by cases h⟩,
  List.forall_mem_cons.mpr ⟨⟨_, _, _, tyX8, rfl, by decide, ziX8, zTb_in 639 (by decide +kernel) (by decide +kernel), tyX8_ok, nmX8, fun h => by cases h⟩,
  List.forall_mem_cons.mpr ⟨⟨_, _, _, tyX8, rfl, by decide, ziX8, zTb_in 641 (by decide +kernel) (by decide +kernel), tyX8_ok, nmX8, fun h => by cases h⟩,
  List.forall_mem_cons.mpr ⟨⟨_, _, _, tyX8, rfl, by decide, ziX8, zTb_in 642 (by decide +kernel) (by decide +kernel), tyX8_ok, nmX8, fun h => by cases h⟩,
  List.forall_mem_cons.mpr ⟨⟨_, _, _, tyX8, rfl, by decide, ziX8, zTb_in 643 (by decide +kernel) (by decide +kernel), tyX8_ok, nmX8, fun h => by cases h⟩,
  List.forall_mem_cons.mpr ⟨⟨_, _, _, tyX8, rfl, by decide, ziX8, zTb_in 644 (by decide +kernel) (by decide +kernel), tyX8_ok, nmX8, fun h => by cases h⟩,
  List.forall_mem_cons.mpr ⟨⟨_, _, _, tyX8, rfl, by decide, ziX8, zTb_in 645 (by decide +kernel) (by decide +kernel), tyX8_ok, nmX8, fun h => by cases h⟩,
  List.forall_mem_cons.mpr ⟨⟨_, _, _, tyX8, rfl, by decide, ziX8, zTb_in 646 (by decide +kernel) (by decide +kernel), tyX8_ok, nmX8, fun h => by cases h⟩,
  List.forall_mem_cons.mpr ⟨⟨_, _, _, tyX8, rfl, by decide, ziX8, zTb_in 621 (by decide +kernel) (by decide +kernel), tyX8_ok, nmX8, fun _ => ⟨rfl, rfl⟩⟩,
  List.forall_mem_cons.mpr ⟨⟨_, _, _, tyX8, rfl, by decide, ziX8, zTb_in 640 (by decide +kernel) (by decide +kernel), tyX8_ok, nmX8, fun _ => ⟨rfl, rfl⟩⟩,
  List.forall_mem_cons.mpr ⟨⟨_, _, _, tyX8, rfl, by decide, ziX8, zTb_in 627 (by decide +kernel) (by decide +kernel), tyX8_ok, nmX8, fun _ => ⟨rfl, rfl⟩⟩,
  List.forall_mem_cons.mpr ⟨⟨_, _, _, tyX8, rfl, by decide, ziX8, zTb_in 633 (by decide +kernel) (by decide +kernel), tyX8_ok, nmX8, fun _ => ⟨rfl, rfl⟩⟩,
  List.forall_mem_cons.mpr ⟨⟨_, _, _, tyX8, rfl, by decide, ziX8, zTb_in 647 (by decide +kernel) (by decide +kernel), tyX8_ok, nmX8, fun _ => ⟨rfl, rfl⟩⟩,
  fun _ h => absurd h List.not_mem_nil⟩⟩⟩⟩⟩⟩⟩⟩⟩⟩⟩⟩⟩⟩⟩⟩⟩⟩⟩⟩⟩⟩⟩⟩⟩⟩⟩⟩⟩
def zgX8 : List (Nat × Nat) := []
theorem zgX8_ok : ∀ q ∈ zgX8, zGT RX8 q := fun _ h => absurd h List.not_mem_nil
def znX8 : List (Nat × Int32) := [(106, (-100000)), (120, (-1000000)), (160, 65535), (175, 65536)]
theorem znX8_ok : ∀ q ∈ znX8, Cond.constant RX8 q.1 q.2 ∈ zTb := List.forall_mem_cons.mpr ⟨zTb_in 739 (by decide +kernel) (by decide +kernel), List.forall_mem_cons.mpr ⟨zTb_in 765 (by decide +kernel) (by decide +kernel), List.forall_mem_cons.mpr ⟨zTb_in 838 (by decide +kernel) (by decide +kernel), List.forall_mem_cons.mpr ⟨zTb_in 859 (by decide +kernel) (by decide +kernel), fun _ h => absurd h List.not_mem_nil⟩⟩⟩⟩
def zoX8 : List (Nat × Int64) := [(114, (-1)), (125, 2)]
theorem zoX8_ok : ∀ q ∈ zoX8, Cond.constantLong RX8 q.1 q.2 ∈ zTb := List.forall_mem_cons.mpr ⟨zTb_in 756 (by decide +kernel) (by decide +kernel), List.forall_mem_cons.mpr ⟨zTb_in 770 (by decide +kernel) (by decide +kernel), fun _ h => absurd h List.not_mem_nil⟩⟩
