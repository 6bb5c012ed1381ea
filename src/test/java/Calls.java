import java.lang.reflect.Method;
import java.lang.reflect.Modifier;
import java.util.Arrays;
import java.util.List;

/**
 * Does calls by their names, and runs of calls that are written as "take(0) 1": the call, then the answer that is due.
 * Letters may stand for a number: "letters('ab') 2".
 */
final class Calls {
    static final List<String> NAMES = List.of("letters", "blank", "fault", "net", "lane", "status", "begin", "take", "back",
        "whose", "by", "answer", "lost", "ways", "parting", "mend", "bought", "likely", "player", "as", "move", "game",
        "image", "restore", "count", "digest");

    private Calls() {
    }

    /** Of each step the answer must be as due; a step "page ab:ab" puts letters on the page. */
    static void run(Check check, String what, CutsOrFast x, String... steps) {
        StringBuilder before = new StringBuilder();
        for (String step : steps) {
            String[] parts = step.split(" ");
            if (parts[0].equals("page")) {
                Check.write(x, parts[1]);
            } else {
                check.due(what + " ..." + before + " " + parts[0], ask(x, parts[0]), number(parts[1]));
            }
            before.append(' ').append(parts[0]);
        }
    }

    /** The call "lane(0,3)" of an object. */
    static long ask(Object x, String call) {
        int open = call.indexOf('(');
        String inside = call.substring(open + 1, call.length() - 1);
        String[] told = inside.isEmpty() ? new String[0] : inside.split(",");
        int[] numbers = new int[told.length];
        long word = 0;
        for (int i = 0; i < told.length; i++) {
            word = number(told[i]);
            numbers[i] = (int) word;
        }
        return ask(x, call.substring(0, open), numbers, word);
    }

    /** The call of that name with as many of the numbers as it takes; letters() takes the word. */
    static long ask(Object x, String name, int[] numbers, long word) {
        for (Method m : x.getClass().getDeclaredMethods()) {
            if (m.getName().equals(name) && !Modifier.isPrivate(m.getModifiers())) {
                Object[] given = new Object[m.getParameterCount()];
                for (int i = 0; i < given.length; i++) {
                    given[i] = m.getParameterTypes()[i] == long.class ? (Object) word : (Object) numbers[i];
                }
                return called(x, m, given);
            }
        }
        throw new IllegalArgumentException(name);
    }

    private static long called(Object x, Method m, Object[] given) {
        try {
            return ((Number) m.invoke(x, given)).longValue();
        } catch (ReflectiveOperationException e) {
            throw new IllegalStateException(m + " " + Arrays.toString(given), e);
        }
    }

    private static long number(String told) {
        switch (told) {
            case "NONE": return CutsOrFast.NONE;
            case "UNKNOWN": return CutsOrFast.UNKNOWN;
            case "OUTSIDE": return CutsOrFast.OUTSIDE;
            case "STATE": return CutsOrFast.STATE;
            case "FULL": return CutsOrFast.FULL;
            case "MIN": return Integer.MIN_VALUE;
            case "MAX": return Integer.MAX_VALUE;
            default: return told.charAt(0) == '\'' ? Check.packed(told.substring(1, told.length() - 1)) : Long.parseLong(told);
        }
    }
}
