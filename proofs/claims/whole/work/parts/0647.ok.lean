theorem am_kl14 : (List.range 50).all (fun k => am_okA 299 (1540 + k)) = true := by decide +kernel
