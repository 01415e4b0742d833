import java.util.concurrent.Callable;

/** What the tests share: texts put on the tape, answers compared, exceptions awaited. */
final class Check {
    private int wrong;
    private int asked;

    static MilkDays put(MilkDays days, String text) {
        days.end(0);
        int[] numbers = new int[(text.length() + 19) / 20 * 5];
        for (int i = 0; i < text.length(); i++) {
            numbers[i / 4] |= text.charAt(i) << 24 - i % 4 * 8;
        }
        for (int i = 0; i < numbers.length; i += 5) {
            days.feed(numbers[i], numbers[i + 1], numbers[i + 2], numbers[i + 3], numbers[i + 4]);
        }
        days.end(text.length());
        return days;
    }

    static MilkDays suburb(String... texts) {
        MilkDays days = new MilkDays();
        for (String text : texts) {
            put(days, text).suburb();
        }
        return days;
    }

    static MilkDays law(MilkDays days, String text) {
        put(days, text).law();
        return days;
    }

    void same(String name, Object got, Object due) {
        asked++;
        if (!due.equals(got)) {
            wrong++;
            System.out.println(name + ": answered " + got + ", due is " + due);
        }
    }

    void fails(String name, Class<? extends Exception> due, Callable<?> call) {
        String got;
        try {
            got = String.valueOf(call.call());
        } catch (Exception e) {
            got = e.getClass().getName();
        }
        same(name, got, due.getName());
    }

    void end(String test) {
        System.out.println(test + ": " + asked + " checks, " + wrong + " wrong");
        if (wrong > 0) {
            System.exit(1);
        }
    }
}
