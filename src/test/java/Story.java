import java.lang.reflect.InvocationTargetException;
import java.lang.reflect.Method;
import java.util.ArrayList;
import java.util.HashMap;
import java.util.LinkedHashSet;
import java.util.List;
import java.util.Map;
import java.util.Set;

/**
 * A row of calls, written as in a program, that can be told to new objects again and again. So a call
 * that is refused can be tried, and everything asked behind it, even what a question would spoil.
 */
final class Story {
    static final String INDEX = "IndexOutOfBoundsException";
    static final String ARGUMENT = "IllegalArgumentException";
    static final String STATE = "IllegalStateException";

    private static final int MOST_CALLS = 512;
    /** In a story that is shorter refused calls are kept, so that what comes later comes behind them. */
    private static final int ROOM = 100;
    private static final Map<String, Integer> WORDS = Map.of("NONE", -1, "FREE", -9, "PLAIN", 0, "LEAST", 1,
            "GREATEST", 2, "UNION", 3, "SAME", 0, "OTHER", 1, "LESS", 2, "AT_MOST", 3);
    private static final Map<String, Call> CALLS = new HashMap<>();

    private static final class Call {
        private Method method;
        private Object[] values;
    }

    /** A new object to which the story was told, and all that it answered since. */
    private static final class Told {
        private final Datalogmill mill = new Datalogmill();
        private final StringBuilder answers = new StringBuilder();
        private int calls;

        private String ask(String call) {
            String answer = answer(mill, call);
            answers.append(call).append(" = ").append(answer).append('\n');
            calls++;
            if (calls > MOST_CALLS) {
                throw new AssertionError("a story with more calls than are promised");
            }
            return answer;
        }

        private int number(String call) {
            String answer = ask(call);
            return answer.endsWith("Exception") ? -1 : Integer.parseInt(answer);
        }
    }

    private final Check check;
    private final List<String> calls = new ArrayList<>();
    /** Those of them that were not refused. */
    private final List<String> taken = new ArrayList<>();
    private Told live = new Told();
    /** What is answered now if nothing is refused; null if that was not asked yet. */
    private List<String> everything;

    Story(Check itsCheck, String... itsCalls) {
        check = itsCheck;
        tell(itsCalls);
    }

    /** Goes on with calls that are not refused. */
    Story tell(String... more) {
        for (String call : more) {
            String answer = append(call);
            check.so(call + " threw " + answer, !answer.endsWith("Exception"));
        }
        return this;
    }

    /** Goes on with a call that answers this. */
    Story tells(String call, long due) {
        same(call, append(call), String.valueOf(due));
        return this;
    }

    /** Asks what changes nothing; a boolean counts 1 or 0. */
    Story due(String question, long due) {
        if (live.calls == MOST_CALLS) {
            live = told();
        }
        same(question, live.ask(question), String.valueOf(due));
        return this;
    }

    /** Tries a call that throws; behind it everything is as if it had not been there. */
    Story refused(String call, String exception) {
        Told tried = told();
        same(call, tried.ask(call), exception);
        if (everything == null) {
            everything = everything(null);
        }
        List<String> after = everything(call);
        for (int i = 0; i < after.size(); i++) {
            check.so("behind " + call + " " + firstChange(everything.get(i), after.get(i)),
                    after.get(i).equals(everything.get(i)));
        }
        if (calls.size() < ROOM && live.calls < MOST_CALLS) {
            calls.add(call);
            live.ask(call);
        }
        return this;
    }

    private static String firstChange(String before, String after) {
        String[] due = before.split("\n");
        String[] got = after.split("\n");
        for (int i = 0; i < Math.min(due.length, got.length); i++) {
            if (!due[i].equals(got[i])) {
                return "there is " + got[i] + ", without it " + due[i];
            }
        }
        return "there are " + got.length + " answers, without it " + due.length;
    }

    private void same(String call, String got, String due) {
        check.so(call + " answered " + got + ", due is " + due, got.equals(due));
    }

    private String append(String call) {
        calls.add(call);
        taken.add(call);
        everything = null;
        return live.ask(call);
    }

    private Told told() {
        Told told = new Told();
        for (String call : calls) {
            told.ask(call);
        }
        told.answers.setLength(0);
        return told;
    }

    private static String answer(Datalogmill mill, String text) {
        Call call = CALLS.computeIfAbsent(text, Story::parsed);
        try {
            Object answer = call.method.invoke(mill, call.values);
            return answer == null ? "0" : answer instanceof Boolean ? ((Boolean) answer ? "1" : "0") : answer.toString();
        } catch (InvocationTargetException e) {
            return e.getCause().getClass().getSimpleName();
        } catch (IllegalAccessException e) {
            throw new AssertionError(e);
        }
    }

    private static Call parsed(String text) {
        Call call = new Call();
        String name = text.substring(0, text.indexOf('('));
        for (Method method : Datalogmill.class.getMethods()) {
            call.method = method.getName().equals(name) ? method : call.method;
        }
        String inner = text.substring(name.length() + 1, text.length() - 1);
        String[] words = inner.isEmpty() ? new String[0] : inner.split(", ");
        call.values = new Object[words.length];
        for (int i = 0; i < words.length; i++) {
            call.values[i] = words[i].equals("true") || words[i].equals("false") ? (Object) words[i].equals("true")
                    : WORDS.containsKey(words[i]) ? WORDS.get(words[i]) : (Object) Integer.parseInt(words[i]);
        }
        return call;
    }

    // ---- everything that can be asked

    private Told begin(String refused) {
        Told told = told();
        if (refused != null) {
            told.ask(refused);
            told.answers.setLength(0);
        }
        return told;
    }

    private List<String> everything(String refused) {
        List<String> all = new ArrayList<>();
        for (int hours = 0; hours < 5; hours++) {
            Told told = begin(refused);
            for (int i = 0; i < hours; i++) {
                told.ask("pass()");
            }
            models(told);
            all.add(told.answers.toString());
        }
        all.add(origins(begin(refused)));
        all.add(plans(begin(refused)));
        for (int relation = 0; relation < 10; relation++) {
            if (columnsOf(relation) > 0) {
                all.add(goalsAndReasons(begin(refused), relation));
                for (int hour = 0; hour < 4; hour++) {
                    all.add(hour(begin(refused), relation, hour));
                }
            }
        }
        numbers(all, refused);
        draft(all, refused);
        return all;
    }

    private static void models(Told told) {
        for (int relation = 0; relation < 10; relation++) {
            told.ask("stratum(" + relation + ")");
            int size = told.number("size(" + relation + ")");
            for (int place = 0; place <= size; place++) {
                told.ask("at(" + relation + ", " + place + ")");
            }
        }
        told.ask("broken()");
        told.ask("repair()");
    }

    private static String origins(Told told) {
        for (int relation = 0; relation < 10; relation++) {
            int size = told.number("size(" + relation + ")");
            for (int place = 0; place < size; place++) {
                int code = told.number("at(" + relation + ", " + place + ")");
                String row = "(" + relation + ", " + (code >> 14) + ", " + (code >> 7 & 127) + ", " + (code & 127) + ")";
                told.ask("ways" + row);
                told.ask("cheapest" + row);
                told.ask("needed" + row);
            }
        }
        return told.answers.toString();
    }

    private static String plans(Told told) {
        for (int rule = 0; rule < 13; rule++) {
            for (int place = 0; place < 4; place++) {
                told.ask("order(" + rule + ", " + place + ")");
            }
            told.ask("joins(" + rule + ")");
        }
        for (int relation = 0; relation < 10; relation++) {
            told.ask("indexes(" + relation + ")");
        }
        return told.answers.toString();
    }

    private String goalsAndReasons(Told told, int relation) {
        int columns = columnsOf(relation);
        String behind = columns == 1 ? ", 0, 0)" : columns == 2 ? ", FREE, 0)" : ", FREE, FREE)";
        told.ask("goals(" + relation + ", FREE" + behind);
        for (int value = 0; value < 8; value++) {
            told.ask("goals(" + relation + ", " + value + behind);
        }
        int left = 100;
        for (String row : candidates(relation)) {
            if (left > 0) {
                told.ask("whyNot(" + relation + ", " + row + ")");
                left--;
            }
        }
        return told.answers.toString();
    }

    private String hour(Told told, int relation, int hour) {
        int left = 150;
        for (String row : candidates(relation)) {
            if (left > 0) {
                told.ask("holdsAt(" + relation + ", " + row + ", " + hour + ")");
                told.ask("holdsAnew(" + relation + ", " + row + ", " + hour + ")");
                left--;
            }
        }
        return told.answers.toString();
    }

    /** How facts, rules, denials, hours and relations are counted. */
    private void numbers(List<String> all, String refused) {
        String[] lasts = {"drop", "remove", "declare", "fact", "enter", "deny"};
        for (String last : lasts) {
            Told told = begin(refused);
            for (int i = 0; i < 26; i++) {
                if (last.equals("declare")) {
                    told.ask(last + "(" + (i - 1) + ", 1, PLAIN, 1)");
                } else if (last.equals("fact")) {
                    told.ask(last + "(" + i % 10 + ", 0, 0, 0, 1, 0, 3)");
                } else if (last.equals("enter") || last.equals("deny")) {
                    told.ask(last + "()");
                    told.ask("head(" + i % 10 + ", 0, 0, 0)");
                    told.ask("compare(SAME, 1, 1)");
                } else {
                    told.ask(last + "(" + (i - 1) + ")");
                }
            }
            told.ask("broken()");
            all.add(told.answers.toString());
        }
    }

    /** What the draft is, by what it comes to. */
    private void draft(List<String> all, String refused) {
        for (int what = 0; what < 4; what++) {
            Told told = begin(refused);
            if (what == 0) {
                told.ask("clear()");
            } else if (what == 1) {
                int rule = told.number("enter()");
                told.ask("joins(" + rule + ")");
                for (int place = 0; place < 3; place++) {
                    told.ask("order(" + rule + ", " + place + ")");
                }
                models(told);
            } else if (what == 2) {
                told.ask("deny()");
            } else {
                for (int i = 0; i < 6; i++) {
                    told.ask("compare(SAME, 1, 1)");
                }
                told.ask("enter()");
            }
            for (int hour = 0; hour < 4; hour++) {
                told.ask("broken()");
                told.ask("pass()");
            }
            told.ask("enter()");
            told.ask("deny()");
            told.ask("clear()");
            all.add(told.answers.toString());
        }
        Told told = begin(refused);
        for (int relation = 0; relation < 10; relation++) {
            told.ask("atom(" + relation + ", false, 0, 0, 0)");
            told.ask("atom(" + relation + ", true, 0, 0, 0)");
        }
        told.ask("deny()");
        told.ask("broken()");
        all.add(told.answers.toString());
    }

    private int columnsOf(int relation) {
        for (String call : taken) {
            if (call.startsWith("declare(" + relation + ", ")) {
                return (Integer) CALLS.get(call).values[1];
            }
        }
        return 0;
    }

    /** Tuples that may be in a model: those of facts, and those of small values. */
    private Set<String> candidates(int relation) {
        Set<String> rows = new LinkedHashSet<>();
        for (String call : taken) {
            if (call.startsWith("fact(" + relation + ", ")) {
                Object[] values = CALLS.get(call).values;
                rows.add(values[1] + ", " + values[2] + ", " + values[3]);
            }
        }
        int columns = columnsOf(relation);
        for (int first = 0; first < 5; first++) {
            for (int second = 0; second < (columns > 1 ? 5 : 1); second++) {
                for (int third = 0; third < (columns > 2 ? 5 : 1); third++) {
                    rows.add(first + ", " + second + ", " + third);
                }
            }
        }
        return rows;
    }
}
