import java.util.concurrent.Callable;

/** What the tests share: texts put on the tape, answers compared, exceptions awaited. */
final class Check {
    private int wrong;
    private int asked;

    static MilkDays put(MilkDays days, String text) {
        days.end(0);
        byte[] bytes = new byte[(text.length() + 19) / 20 * 20];
        for (int i = 0; i < text.length(); i++) {
            bytes[i] = (byte) text.charAt(i);
        }
        for (int i = 0; i < bytes.length; i += 20) {
            days.feed(word(bytes, i), word(bytes, i + 4), word(bytes, i + 8), word(bytes, i + 12), word(bytes, i + 16));
        }
        days.end(text.length());
        return days;
    }

    private static int word(byte[] bytes, int i) {
        return (bytes[i] & 255) << 24 | (bytes[i + 1] & 255) << 16 | (bytes[i + 2] & 255) << 8 | bytes[i + 3] & 255;
    }

    static MilkDays suburb(String... texts) {
        MilkDays days = new MilkDays();
        for (String text : texts) {
            put(days, text).suburb();
        }
        return days;
    }

    static MilkDays law(MilkDays days, String text) {
        put(days, text).law();
        return days;
    }

    void same(String name, Object got, Object due) {
        asked++;
        if (!due.equals(got)) {
            wrong++;
            System.out.println(name + ": answered " + got + ", due is " + due);
        }
    }

    void fails(String name, Class<? extends Exception> due, Callable<?> call) {
        String got;
        try {
            got = String.valueOf(call.call());
        } catch (Exception e) {
            got = e.getClass().getName();
        }
        same(name, got, due.getName());
    }

    void end(String test) {
        System.out.println(test + ": " + asked + " checks, " + wrong + " wrong");
        if (wrong > 0) {
            System.exit(1);
        }
    }
}
