theorem am_kl1 : (List.range 120).all (fun k => am_okA 299 (120 + k)) = true := by decide +kernel
