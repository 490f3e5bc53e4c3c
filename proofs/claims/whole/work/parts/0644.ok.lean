theorem am_kl11 : (List.range 120).all (fun k => am_okA 299 (1320 + k)) = true := by decide +kernel
