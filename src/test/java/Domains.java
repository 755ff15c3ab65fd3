import java.util.ArrayList;
import java.util.Collections;
import java.util.List;
import java.util.Random;

/** Texts of domains, made by a random source with a fixed seed, so that each test is the same every time. */
final class Domains {
    /** The routers of these domains cycle, or come to rest in two ways, at least if some routers are extended. */
    private static final String[] RESTLESS = {
        "D5l015l024l031l349c01c02p30c34e1123e2021e4020",
        "D5p32p42p43c30c41l426l439l034l124l135l142e1012e1111e0010e4011",
        "D5p34c42c41c30l248l238l145l044e2111e0011e2110e2112",
        "D5p21p31p32c14c30l318l323l418l426l013l022l046e0012e2112e4111",
        "D5p03p43p40c31c42l436l406l135l107l231l203l242l218e1110e2111e2112e2012",
        "D5p12p32p31c20c14l324l311l025l011l423l433l402e0010e4012e4111e4121",
        "D5c32c31c34c30l131l127l433l036l015l049e1012e2011e0112e1111",
        "D4p32c30c21l023l037l135l108e1012e0012e0111e0012",
        "D5p41p21p24c43c20l329l018l044l039e0010e3010e0110",
        "D5l321p21c40c30l419l432c14p20l422c13l105e3010e0111e4010",
        "D4c31c32c30l238l216l037l024e0012e3111e2010e0110",
        "D5l102l204c12c03l308l316c32l329c24l427c43l432e0112e0110e1010",
        "D5l103c02l205p12l215c30l305l324c40l405p14c24l422l432e1110e3010",
        "D5p34c31c32c40l349l145l214l029e1112e0110e1012",
        "D4p32c30c21l327l022l034l138e0112e0010e0011e1110",
        "D5l102l209c21l214c30l307c13l312c32l321l408p24l434e0012e0112e0110e4011",
        "D5p43c30c42c41l432l049l234l201l147l107e0110e2112e2011",
        "D4p30p10p13c12l104l138l207l215e2112e3111e2012e2010",
        "D5c01l107c30l309c13l319l329c04c42l425l434e3012e2011e3110",
        "D5l104l207c21c03l305c40l401l416c42l422e3010e1012e1111",
        "D5l326c30c12l427l202l301p41c43l412l107l316l402l431e2110e0112e0011",
        "D5c21l218l304c13l318l323c40l412c34l432e2111e2011e2010e0110",
        "D5l217c32c41l204l438l401l309l319l417l424l325c10c04c24l103e0112e3111e0012",
        "D5p14c10c43c12l045l348l318l309l213l234e3011e2010e0112e3110",
        "D4p20c23c01l302l326l121e1011e3011e1010",
        "D4p23c30c21l234l022l134l129e0111e2110e1111"};

    private Domains() {
    }

    /** One of the restless domains; sometimes a cost or a weight in it is changed. */
    static String restless(Random random) {
        String text = RESTLESS[random.nextInt(RESTLESS.length)];
        if (random.nextInt(3) > 0) {
            return text;
        }
        int at = text.indexOf(random.nextBoolean() ? 'l' : 'e');
        int digit = text.charAt(at) == 'l' ? at + 3 : at + 4;
        return text.substring(0, digit) + (1 + random.nextInt(5)) + text.substring(digit + 1);
    }

    /** A valid text; many of the domains have clients and exits that compete, so that routers hide exits. */
    static String valid(Random random) {
        int n = random.nextInt(4) == 0 ? 1 + random.nextInt(3) : 4 + random.nextInt(2);
        List<String> parts = new ArrayList<>();
        int clientShare = random.nextInt(4);
        int linkShare = 3 + random.nextInt(5);
        int sessionShare = 3 + random.nextInt(5);
        for (int i = 0; i < n; i++) {
            for (int j = 0; j < i; j++) {
                String pair = random.nextBoolean() ? "" + i + j : "" + j + i;
                if (random.nextInt(8) < linkShare) {
                    parts.add("l" + pair + (1 + random.nextInt(9)));
                }
                if (random.nextInt(8) < sessionShare) {
                    parts.add((random.nextInt(4) < clientShare ? "c" : "p") + pair);
                }
            }
        }
        int exits = random.nextInt(6) == 0 ? random.nextInt(3) : 2 + random.nextInt(3);
        int paths = random.nextInt(3) == 0 ? 5 : 1 + random.nextInt(2);
        int weights = 1 + random.nextInt(6);
        for (int e = 0; e < exits; e++) {
            parts.add("e" + random.nextInt(n) + random.nextInt(3) + (1 + random.nextInt(paths)) + random.nextInt(weights));
        }
        Collections.shuffle(parts, random);
        StringBuilder text = new StringBuilder("D" + n);
        for (String part : parts) {
            if (text.length() + part.length() <= 90) {
                text.append(part);
            }
        }
        return text.toString();
    }

    /** A text that is valid up to some place, where a character is left out, put in or changed. */
    static String spoilt(Random random) {
        String text = valid(random);
        int at = random.nextInt(text.length() + 1);
        String signs = "Dlpce0123456789x";
        char sign = random.nextInt(20) == 0 ? (char) random.nextInt(256) : signs.charAt(random.nextInt(signs.length()));
        String spoilt = switch (random.nextInt(4)) {
            case 0 -> text.substring(0, at);
            case 1 -> text.substring(0, at) + sign + text.substring(at);
            case 2 -> at < text.length() ? text.substring(0, at) + sign + text.substring(at + 1) : text + sign;
            default -> at < text.length() ? text.substring(0, at) + text.substring(at + 1) : text;
        };
        return spoilt.length() > 90 ? spoilt.substring(0, 90) : spoilt;
    }
}
