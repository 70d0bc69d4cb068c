import java.util.ArrayList;
import java.util.Arrays;
import java.util.List;
import java.util.function.Supplier;
import java.util.function.ToIntFunction;

/** What the tests share: counting wrong answers, writing texts on the pad, and all that an object shows. */
final class Check {
    private static final int MOST_UNDO = 6;
    private static final int SLOTS = 2;
    private static final int LONGEST_WAIT = 100;

    private int answers = 0;
    private int wrong = 0;
    private String sentence = "";

    /** The sentence of the document that the next answers are about; it stands before those that are wrong. */
    void sentence(String words) {
        sentence = "\"" + words + "\": ";
    }

    void due(String call, long want, long got) {
        answers++;
        if (got != want) {
            wrong++;
            System.out.println(sentence + call + " answered " + got + ", due is " + want);
        }
    }

    void same(String what, List<Integer> want, List<Integer> got) {
        answers++;
        if (!want.equals(got)) {
            wrong++;
            System.out.println(sentence + what + ": " + got + ", due is " + want);
        }
    }

    /** The call fails so, and changes nothing. */
    void refused(String what, int error, Supplier<ProxyVotes> made, ToIntFunction<ProxyVotes> call) {
        asks(what, error, made, call);
    }

    /** The call answers so, and changes nothing. */
    void asks(String what, int answer, Supplier<ProxyVotes> made, ToIntFunction<ProxyVotes> call) {
        due(what, answer, call.applyAsInt(made.get()));
        same(what + " changes nothing", everything(made), everything(after(made, call)));
    }

    /** The call answers so, and is recorded as one change, which can be undone. */
    void change(String what, int answer, Supplier<ProxyVotes> made, ToIntFunction<ProxyVotes> call) {
        ProxyVotes x = made.get();
        due(what, answer, call.applyAsInt(x));
        due(what + " is recorded", Math.min(made.get().count(15) + 1, MOST_UNDO), x.count(15));
        x.undo();
        same(what + " is undone", state(made.get()), state(x));
    }

    static Supplier<ProxyVotes> after(Supplier<ProxyVotes> made, ToIntFunction<ProxyVotes> call) {
        return () -> {
            ProxyVotes x = made.get();
            call.applyAsInt(x);
            return x;
        };
    }

    /** All there is to see of an object: what it shows, and what its history, pad, slots and movements hold. */
    static List<Integer> everything(Supplier<ProxyVotes> made) {
        List<Integer> shown = all(made.get());
        int changes = made.get().count(15);
        for (int back = 1; back <= changes; back++) {
            ProxyVotes x = made.get();
            for (int undone = 0; undone < back; undone++) {
                shown.add(x.undo());
            }
            shown.addAll(state(x));
        }
        ProxyVotes text = made.get();
        shown.add(text.carryOut());
        shown.addAll(state(text));
        for (int slot = 0; slot < SLOTS; slot++) {
            ProxyVotes x = made.get();
            shown.add(x.restore(slot));
            shown.addAll(state(x));
        }
        ProxyVotes later = made.get();
        for (int minutes = 0; minutes < LONGEST_WAIT && later.count(13) > 0; minutes++) {
            later.pass(1);
            shown.add(later.count(3));
            shown.add(later.count(13));
        }
        return shown;
    }

    void that(String what, boolean holds) {
        due(what, 1, holds ? 1 : 0);
    }

    int wrongOnes() {
        return wrong;
    }

    /** Ends the test. */
    void end() {
        System.out.println(answers + " answers, " + wrong + " of them wrong");
        if (wrong != 0 || answers == 0) {
            System.exit(1);
        }
    }

    /** Up to eight characters as put() takes them. */
    static long packed(String text) {
        long characters = 0;
        for (int i = 0; i < text.length(); i++) {
            characters = characters << 8 | text.charAt(i);
        }
        return characters;
    }

    /** Appends a text of any length. */
    static void write(ProxyVotes x, String text) {
        for (int from = 0; from < text.length(); from += 8) {
            x.put(packed(text.substring(from, Math.min(text.length(), from + 8))));
        }
    }

    /** Makes members with these weights, all of group 0. */
    static ProxyVotes committee(int... weights) {
        ProxyVotes x = new ProxyVotes();
        for (int weight : weights) {
            x.member(weight, 0);
        }
        return x;
    }

    static void come(ProxyVotes x, int... members) {
        for (int member : members) {
            x.come(member);
        }
    }

    /** The six sums of an item. */
    static List<Integer> sums(ProxyVotes x, int item) {
        List<Integer> sums = new ArrayList<>();
        for (int what = 3; what <= 8; what++) {
            sums.add(x.ofItem(item, what));
        }
        return sums;
    }

    void numbers(String what, int[] due, int[] got) {
        for (int i = 0; i < due.length; i++) {
            due(what + ", " + i, due[i], got[i]);
        }
    }

    /** All that ofMember() tells. */
    static int[] ofMember(ProxyVotes x, int member) {
        int[] got = new int[6];
        for (int what = 0; what < got.length; what++) {
            got[what] = x.ofMember(member, what);
        }
        return got;
    }

    /** All that ofItem() tells. */
    static int[] ofItem(ProxyVotes x, int item) {
        int[] got = new int[12];
        for (int what = 0; what < got.length; what++) {
            got[what] = x.ofItem(item, what);
        }
        return got;
    }

    /** All that at() tells. */
    static int[] at(ProxyVotes x, int member, int item) {
        int[] got = new int[7];
        for (int what = 0; what < got.length; what++) {
            got[what] = x.at(member, item, what);
        }
        return got;
    }

    static List<Integer> row(Integer... numbers) {
        return Arrays.asList(numbers);
    }

    /** All that undo() brings back, as far as it shows. */
    static List<Integer> state(ProxyVotes x) {
        List<Integer> shown = new ArrayList<>();
        for (int what = 0; what <= 21; what++) {
            if (what != 14 && what != 15) {
                shown.add(x.count(what));
            }
        }
        for (int member = 0; member < x.count(1); member++) {
            for (int what = 0; what <= 5; what++) {
                shown.add(x.ofMember(member, what));
            }
        }
        for (int item = 0; item < x.count(2); item++) {
            for (int what = 0; what <= 11; what++) {
                shown.add(x.ofItem(item, what));
            }
            for (int member = 0; member < x.count(1); member++) {
                for (int what = 0; what <= 6; what++) {
                    shown.add(x.at(member, item, what));
                }
            }
            // The waiting movements show only here.
            shown.add(x.quorumAt(item));
        }
        return shown;
    }

    /** state(), and the pad and the history, as far as they show. */
    static List<Integer> all(ProxyVotes x) {
        List<Integer> shown = state(x);
        shown.add(x.count(14));
        shown.add(x.count(15));
        shown.add(x.fault());
        return shown;
    }
}
