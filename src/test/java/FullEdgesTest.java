import java.util.function.Supplier;

/** What is full: members, items, movements, the pad, the characters of one call, the history. */
public final class FullEdgesTest {
    private static final int BAD_VALUE = -2, TOO_MANY = -4, NOT_POSSIBLE = -5, NONE = -6;
    private static final Check CHECK = new Check();

    public static void main(String[] args) {
        members();
        allMembersTakePart();
        weights();
        items();
        allItemsTakePart();
        movements();
        pad();
        atOnce();
        history();
        CHECK.end();
    }

    private static ProxyVotes members(int number) {
        ProxyVotes x = new ProxyVotes();
        for (int member = 0; member < number; member++) {
            x.member(member % 9 + 1, member % 4);
        }
        return x;
    }

    private static void members() {
        CHECK.sentence("There are up to 12 members, numbered in the order in which they came to be.");
        for (int number = 0; number < 12; number++) {
            int next = number;
            CHECK.change("member " + number, number, () -> members(next), x -> x.member(1, 0));
        }
        CHECK.sentence("TOO_MANY if there are 12 members");
        CHECK.refused("a thirteenth", TOO_MANY, () -> members(12), x -> x.member(1, 0));
        CHECK.refused("a thirteenth of the highest weight", TOO_MANY, () -> members(12), x -> x.member(9, 3));
        ProxyVotes x = members(12);
        x.member(1, 0);
        x.member(1, 0);
        CHECK.due("twelve", 12, x.count(1));
        x.undo();
        CHECK.due("eleven", 11, x.count(1));
        CHECK.due("the twelfth again", 11, x.member(2, 0));
        CHECK.due("a thirteenth again", TOO_MANY, x.member(2, 0));
    }

    /** The last member can do what the first one can. */
    private static void allMembersTakePart() {
        CHECK.sentence("There are up to 12 members");
        ProxyVotes x = Committees.plain(12);
        for (int member = 0; member < 12; member++) {
            CHECK.due("come(" + member + ")", member + 1, x.come(member));
        }
        CHECK.due("all are present", 4095, x.count(3));
        CHECK.due("all are there", 12, x.open(0));
        CHECK.due("all could turn it", 4095, x.decisive(0));
        for (int member = 0; member < 12; member++) {
            CHECK.due("vote(" + member + ")", NONE, x.vote(member, member < 6 ? 1 : 2));
        }
        CHECK.due("six to six", ProxyVotes.TIED, x.wouldBe(0));
        CHECK.due("all could turn it", 4095, x.decisive(0));
        CHECK.due("the last one goes", 11, x.go(11));
        CHECK.due("the chair was the first one", 0, x.chair(11));
        CHECK.due("its vote stands", 2, x.at(11, 0, 1));
        CHECK.due("a holder of the last one", NONE, x.proxy(11, NONE, 10));
        CHECK.due("for whom the holder speaks", 2048, x.at(10, 0, 6));
        CHECK.due("the last one comes later", 1, x.later(1, 11, 1));
        x.pass(1);
        CHECK.due("and is there", 4095, x.count(3));
        CHECK.due("as the chair", 11, x.count(6));
        CHECK.due("tied", ProxyVotes.TIED, x.close());
        CHECK.due("broken", ProxyVotes.LOST, x.cast(2));
        CHECK.due("by the last one", 11, x.ofItem(0, 9));
        CHECK.due("by the last one", 1, x.ofMember(11, 5));
        CHECK.due("power of the last one", 462, x.power(11));
    }

    private static void weights() {
        CHECK.sentence("So these six sums make up the weight of all members.");
        ProxyVotes x = new ProxyVotes();
        for (int member = 0; member < 12; member++) {
            x.member(9, 0);
        }
        x.item(1, 0);
        x.item(0, 1);
        CHECK.due("all of the highest weight", 108, x.count(7));
        CHECK.same("nobody is heard", Check.row(0, 0, 0, 0, 108, 0), Check.sums(x, 0));
        CHECK.same("all are recused", Check.row(0, 0, 0, 0, 0, 108), Check.sums(x, 1));
        for (int member = 0; member < 12; member++) {
            x.come(member);
        }
        CHECK.same("all are silent", Check.row(0, 0, 0, 108, 0, 0), Check.sums(x, 0));
        x.open(0);
        for (int member = 0; member < 12; member++) {
            x.vote(member, 1);
        }
        CHECK.same("all are for it", Check.row(0, 108, 0, 0, 0, 0), Check.sums(x, 0));
        CHECK.due("carried", ProxyVotes.CARRIED, x.close());
        CHECK.due("all are there for the other one", 108, x.open(1));
    }

    private static ProxyVotes items(int number) {
        ProxyVotes x = new ProxyVotes();
        for (int item = 0; item < number; item++) {
            x.item(item % 3, item);
        }
        return x;
    }

    private static void items() {
        CHECK.sentence("There are up to 12 items, numbered in the order in which they came to be.");
        for (int number = 0; number < 12; number++) {
            int next = number;
            CHECK.change("item " + number, number, () -> items(next), x -> x.item(0, 0));
        }
        CHECK.sentence("TOO_MANY if there are 12 items");
        CHECK.refused("a thirteenth", TOO_MANY, () -> items(12), x -> x.item(0, 0));
        CHECK.refused("a thirteenth of all groups", TOO_MANY, () -> items(12), x -> x.item(2, 15));
        ProxyVotes x = items(12);
        x.undo();
        CHECK.due("eleven", 11, x.count(2));
        CHECK.due("the twelfth again", 11, x.item(2, 0));
        CHECK.due("a thirteenth again", TOO_MANY, x.item(2, 0));
    }

    /** The last item can be what the first one can. */
    private static void allItemsTakePart() {
        CHECK.sentence("There are up to 12 items");
        ProxyVotes x = Committees.plain(2);
        for (int item = 1; item < 12; item++) {
            x.item(0, 0);
        }
        x.come(0);
        x.come(1);
        CHECK.due("all wait", 12, x.count(8));
        for (int item = 0; item < 12; item++) {
            CHECK.due("open(" + item + ")", 2, x.open(item));
            CHECK.due("it is open", item, x.count(4));
            x.vote(1, 0);
            CHECK.due("tied", ProxyVotes.TIED, x.close());
        }
        CHECK.due("all are tied", 12, x.count(10));
        CHECK.due("twelve votes stand", 12, x.ofMember(1, 4));
        for (int item = 0; item < 12; item++) {
            CHECK.due("the chair breaks them all", ProxyVotes.CARRIED, x.cast(1));
            CHECK.due("the lowest first", 0, x.ofItem(item, 9));
        }
        CHECK.due("no tie is left", NOT_POSSIBLE, x.cast(1));
        CHECK.due("all are carried", 12, x.count(11));
        CHECK.due("twelve ties were broken", 12, x.ofMember(0, 5));
    }

    private static ProxyVotes waiting(int movements) {
        ProxyVotes x = Committees.plain(2);
        for (int number = 0; number < movements; number++) {
            x.later(10 + number % 5, number % 2, number % 2);
        }
        return x;
    }

    private static void movements() {
        CHECK.sentence("Up to 20 movements wait");
        for (int number = 0; number < 20; number++) {
            int waiting = number;
            CHECK.change("one more than " + number, number + 1, () -> waiting(waiting), x -> x.later(10, 0, 1));
        }
        CHECK.sentence("TOO_MANY if 20 wait");
        CHECK.refused("one more than 20", TOO_MANY, () -> waiting(20), x -> x.later(10, 0, 1));
        CHECK.refused("at another minute", TOO_MANY, () -> waiting(20), x -> x.later(600, 1, 0));
        ProxyVotes x = waiting(20);
        CHECK.due("20 wait", 20, x.count(13));
        x.pass(9);
        CHECK.due("nothing has happened", TOO_MANY, x.later(10, 0, 1));
        x.pass(1);
        CHECK.due("four have happened", 16, x.count(13));
        for (int number = 17; number <= 20; number++) {
            CHECK.due("place for four", number, x.later(20, 1, 0));
        }
        CHECK.due("and no more", TOO_MANY, x.later(20, 1, 0));
        x.undo();
        CHECK.due("undone", 19, x.count(13));
        CHECK.due("place for one", 20, x.later(20, 0, 1));
        CHECK.due("and no more", TOO_MANY, x.later(20, 1, 0));
        x.pass(10);
        CHECK.due("all have happened", 0, x.count(13));
        CHECK.due("1 came and went again, 0 came", 1, x.count(3));
        for (int number = 1; number <= 20; number++) {
            CHECK.due("place for 20", number, x.later(21, 1, 1));
        }
        ProxyVotes y = Committees.plain(2);
        for (int number = 1; number <= 19; number++) {
            y.later(5, 0, number % 2);
        }
        y.later(5, 1, 1);
        y.pass(5);
        CHECK.due("20 in one minute, as they were told", 3, y.count(3));
        CHECK.due("none is left", 0, y.count(13));
    }

    private static ProxyVotes pad(int length) {
        ProxyVotes x = new ProxyVotes();
        for (int put = 0; put < length; put++) {
            x.put(put % 2 == 0 ? 'c' : ';');
        }
        return x;
    }

    private static void pad() {
        CHECK.sentence("The pad is a text of at most 80 characters");
        for (int length = 0; length <= 80; length++) {
            CHECK.due("the length", length, pad(length).count(14));
            for (int more = 1; more <= 8; more++) {
                int longer = length + more;
                long characters = Check.packed("cccccccc".substring(8 - more));
                CHECK.due(length + " and " + more, longer > 80 ? TOO_MANY : longer, pad(length).put(characters));
            }
        }
        CHECK.sentence("TOO_MANY if the pad would be longer than 80");
        CHECK.refused("one more", TOO_MANY, () -> pad(80), x -> x.put('c'));
        CHECK.refused("eight more", TOO_MANY, () -> pad(80), x -> x.put(Check.packed(";c;c;c;c")));
        CHECK.refused("two more, and not the first of them", TOO_MANY, () -> pad(79), x -> x.put(Check.packed(";c")));
        CHECK.refused("eight more than 73", TOO_MANY, () -> pad(73), x -> x.put(Check.packed(";c;c;c;c")));
        ProxyVotes x = pad(79);
        CHECK.due("79", NONE, x.fault());
        CHECK.due("the last place", 80, x.put(';'));
        CHECK.due("80, which end too early", 80, x.fault());
        CHECK.due("wiped", 80, x.wipe());
        CHECK.due("there is place again", 8, x.put(Check.packed("c;c;c;c;")));
        ProxyVotes y = Committees.opened(1);
        Check.write(y, "vA1;vA0;vA2;vA0;vA2;vA0;vA2;vA0;vA2;vA0;vA2;vA0;vA2;vA0;vA2;vA0;vA2;vA0;vA2;vA01");
        CHECK.due("80", 80, y.count(14));
        CHECK.due("a fault at the last place", 79, y.fault());
        y.wipe();
        Check.write(y, "m1;m1;m1;m1;m1;m1;m1;m1;m1;m1;m1;m1;m1;m1;m1;m1;m1;m1;m1;m1;m1;m1;m1;m1;m1;m900");
        CHECK.due("79", 79, y.count(14));
        CHECK.due("the last order fails", 25, y.carryOut());
        Check.write(y, "m1;m1;m1;m1;m1;m1;m1;m1;m1;m1;m1;m1;m1;m1;m1;m1;m1;m1;m1;m1;m1;m1;m1;m1;m10;m100");
        CHECK.due("80", 80, y.count(14));
        CHECK.due("up to the last character", 26, y.carryOut());
        CHECK.due("up to the last character", 25 + 24 + 110, y.count(0));
        CHECK.due("there is place again", 1, y.put('c'));
    }

    private static void atOnce() {
        CHECK.sentence("characters: 1 to 8 characters");
        CHECK.refused("none", BAD_VALUE, Committees::tied, x -> x.put(0));
        for (int length = 1; length <= 8; length++) {
            int characters = length;
            CHECK.due("so many", length, new ProxyVotes().put(Check.packed("+A;-A;m1".substring(8 - characters))));
        }
        CHECK.sentence("its lowest 8 bits are the last character, the next 8 bits the one before, and so on");
        ProxyVotes x = Committees.plain(1);
        x.put(Check.packed("m7;+A;c"));
        CHECK.due("m7, +A; c fails", 2, x.carryOut());
        CHECK.due("m7", 7, x.count(0));
        x.put(Check.packed("-A;m12;m"));
        x.put('5');
        CHECK.due("eight and one", 3, x.carryOut());
        CHECK.due("m12, m5", 24, x.count(0));
        CHECK.sentence(
            "8 bits that are 0 mean that there are no more characters, and everything above them has to be 0");
        for (int length = 1; length <= 6; length++) {
            long good = Check.packed("cccccccc".substring(8 - length));
            for (int bit = 8 * length + 8; bit < 64; bit++) {
                long wrong = good | 1L << bit;
                CHECK.due(length + " characters, and bit " + bit, BAD_VALUE, new ProxyVotes().put(wrong));
            }
        }
        for (int bit = 8; bit < 64; bit++) {
            CHECK.due("no character, and bit " + bit, BAD_VALUE, new ProxyVotes().put(1L << bit));
        }
    }

    private static void history() {
        CHECK.sentence("A history of at most 6 states is kept");
        for (int changes = 0; changes <= 20; changes++) {
            int made = changes;
            Supplier<ProxyVotes> after = () -> {
                ProxyVotes x = new ProxyVotes();
                for (int change = 1; change <= made; change++) {
                    x.set(ProxyVotes.QUORUM, change);
                }
                return x;
            };
            ProxyVotes x = after.get();
            int kept = Math.min(changes, 6);
            CHECK.due("kept after " + changes, kept, x.count(15));
            for (int undone = 1; undone <= kept; undone++) {
                CHECK.due("left of " + changes, kept - undone, x.undo());
                CHECK.due("kept", kept - undone, x.count(15));
                CHECK.due("as it was", changes - undone == 0 ? 50 : changes - undone, x.count(16));
            }
            CHECK.due("the others are dropped", NOT_POSSIBLE, x.undo());
        }
        CHECK.sentence("when one more is recorded, the oldest one is dropped");
        ProxyVotes y = members(7);
        CHECK.due("seven changes, six are kept", 6, y.count(15));
        for (int left = 5; left >= 0; left--) {
            y.undo();
        }
        CHECK.due("the first is not undone", 1, y.count(1));
        CHECK.due("nor can it be", NOT_POSSIBLE, y.undo());
    }
}
