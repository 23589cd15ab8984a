import java.nio.charset.StandardCharsets;

/** Brings texts to an object and takes them from it. */
final class Tapes {
    private Tapes() {
    }

    /** Puts the text behind an empty tape: false if it does not fit. */
    static boolean tell(HoleHouse house, String text) {
        byte[] bytes = text.getBytes(StandardCharsets.ISO_8859_1);
        for (int from = 0; from < bytes.length; from += 20) {
            if (house.feed(number(bytes, from), number(bytes, from + 4), number(bytes, from + 8),
                    number(bytes, from + 12), number(bytes, from + 16)) == HoleHouse.NONE) {
                return false;
            }
        }
        return house.end(bytes.length);
    }

    static int number(byte[] bytes, int from) {
        int number = 0;
        for (int i = from; i < from + 4; i++) {
            number = number << 8 | (i < bytes.length ? bytes[i] & 255 : 32);
        }
        return number;
    }

    static HoleHouse house(String text) {
        HoleHouse house = new HoleHouse();
        if (!tell(house, text) || house.read() == HoleHouse.NONE) {
            throw new IllegalStateException("not a text: " + text);
        }
        return house;
    }

    static String written(HoleHouse house) {
        int length = house.write();
        StringBuilder text = new StringBuilder();
        for (int i = 0; i < length; i++) {
            text.append((char) house.out(i));
        }
        return text.toString();
    }
}
