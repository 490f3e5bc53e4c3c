theorem am_kl14 : (List.range 50).all (fun k => am_okA 298 (1540 + k)) = true := by decide +kernel
