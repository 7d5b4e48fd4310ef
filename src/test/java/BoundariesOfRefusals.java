import java.util.ArrayList;
import java.util.Arrays;
import java.util.List;

/** What goes through all calls: how many there may be, which refusal comes first, and that it changes nothing. */
final class BoundariesOfRefusals {
  private static final int BAD = Boundary.BAD, STATE = Boundary.STATE, FULL = Boundary.FULL, NO_SUCH = Boundary.NO_SUCH;
  private static final int NOTHING = Boundary.NOTHING, OUTSIDE = Boundary.OUTSIDE, OTHER_SORT = Boundary.OTHER_SORT, BELOW_ZERO = Boundary.BELOW_ZERO;
  private static final long NO = Boundary.NO;

  /** A call, and what it answers of a certain street. */
  private record Refused(String name, Call call, long due) {
  }

  private interface Call {
    long on(TwoCamps x);
  }

  private interface Street {
    TwoCamps make();
  }

  private BoundariesOfRefusals() {
  }

  static void ask(Boundary b) {
    calls(b);
    b.says("Terms 1", "Refusals, the first that the call's words name;");
    asDue(b, BoundariesOfRefusals::some, firstOfSome());
    asDue(b, BoundariesOfRefusals::full, firstOfFull());
    asDue(b, BoundariesOfRefusals::none, firstOfNone());
    b.says("Terms 1", "they change nothing:");
    changeNothing(b, BoundariesOfRefusals::some, firstOfSome());
    changeNothing(b, BoundariesOfRefusals::full, firstOfFull());
    changeNothing(b, BoundariesOfRefusals::none, firstOfNone());
    changeNothing(b, BoundariesOfRefusals::some, ofPeople());
    changeNothing(b, BoundariesOfRefusals::some, ofWhatFollows());
    changeNothing(b, BoundariesOfRefusals::some, ofTheHost());
    changeNothing(b, BoundariesOfRefusals::full, ofFull());
    changeNothing(b, BoundariesOfRefusals::none, ofNone());
  }

  private static void calls(Boundary b) {
    b.says("What it is", "An object is used for at most 512 calls after it has been made;");
    TwoCamps x = new TwoCamps();
    for (int call = 1; call <= 511; call++) {
      b.due("call " + call + ", person(1)", x.person(1), call <= 9 ? call - 1 : FULL);
    }
    b.due("call 512, count(0)", x.count(0), 9);
    TwoCamps y = Check.people(2);
    y.feel(0, 1, 1, 7, 0);
    for (int call = 4; call <= 511; call++) {
      int sign = call % 2 == 0 ? -1 : 1;
      b.due("call " + call + ", feel(0, 1, " + sign + ", ..)", y.feel(0, 1, sign, 1 + call % 99, 0), 0);
    }
    b.due("call 512, felt(0, 3)", y.felt(0, 3), 1 + 511 % 99);
  }

  /** A street with something of all. */
  private static TwoCamps some() {
    TwoCamps x = Check.told(5, "a-b4;b-c5k;c-a6!;c+d7;");
    x.set(1, 1, 1);
    Check.text(x, "cost strength*3;let not fixed or kin;");
    x.force(1);
    x.image();
    x.feel(3, 4, -1, 8, 0);
    x.set(0, 2, 50);
    x.force(0);
    Check.camping(x, 1, 0, 1, 2, 0, 9);
    Check.camping(x, 3, 0, 0, 0, 1, 1);
    int[] bytes = {0, 1, -1, 9, 3};
    int[] ints = {0, 1, 2, 3, 9};
    x.sheet(0, 0, 5);
    x.sheet(1, 2, 5);
    for (int i = 0; i < 5; i++) {
      x.cell(0, i, bytes[i]);
      x.cell(1, i, ints[i]);
    }
    Check.feed(x, "a-b9");
    return x;
  }

  /** A street with no room for anything. */
  private static TwoCamps full() {
    TwoCamps x = BoundariesOfPeople.all36(-1, 0);
    for (int text = 1; text <= 5; text++) {
      Check.text(x, "cost " + text + ";let 1;");
    }
    x.sheet(3, 0, 9);
    for (int c = 0; c < 10; c++) {
      x.cell(3, c % 9, 1);
      x.camping(c % 6, 3);
    }
    Check.feed(x, "a+b9;".repeat(32));
    return x;
  }

  /** A street with none of ALL, and without an IMAGE. */
  private static TwoCamps none() {
    TwoCamps x = Check.told(4, "a-b5!;b-c5!;c-a5!;");
    Check.feed(x, "a-b9");
    return x;
  }

  /** Refused for two reasons, of which the first that the words name is due. */
  private static List<Refused> firstOfSome() {
    return List.of(
        new Refused("camping(6, 2), a missing SHEET", x -> x.camping(6, 2), BAD),
        new Refused("camping(-1, 2), a missing SHEET", x -> x.camping(-1, 2), BAD),
        new Refused("sheet(4, 0, -1)", x -> x.sheet(4, 0, -1), BAD),
        new Refused("sheet(0, 3, -1)", x -> x.sheet(0, 3, -1), BAD),
        new Refused("cell(4, -1, 0)", x -> x.cell(4, -1, 0), BAD),
        new Refused("cell(2, -1, 0), a missing SHEET", x -> x.cell(2, -1, 0), NOTHING),
        new Refused("copy(4, 0, 2, 0, 1), a missing SHEET", x -> x.copy(4, 0, 2, 0, 1), BAD),
        new Refused("copy(2, 0, 4, 0, 1), a missing SHEET", x -> x.copy(2, 0, 4, 0, 1), BAD),
        new Refused("copy(0, 0, 4, 0, -1)", x -> x.copy(0, 0, 4, 0, -1), BAD),
        new Refused("copy(2, 0, 0, 0, 1), a missing SHEET", x -> x.copy(2, 0, 0, 0, 1), NOTHING),
        new Refused("copy(0, 9, 2, 0, 1), a missing SHEET", x -> x.copy(0, 9, 2, 0, 1), NOTHING),
        new Refused("copy(0, 9, 1, 0, 1), unlike sorts", x -> x.copy(0, 9, 1, 0, 1), OTHER_SORT),
        new Refused("copy(0, 0, 1, 0, -1), unlike sorts", x -> x.copy(0, 0, 1, 0, -1), OTHER_SORT),
        new Refused("feels(2, 3, 0, 1), a missing SHEET", x -> x.feels(2, 3, 0, 1), BAD),
        new Refused("feels(2, 0, 0, 9), a missing SHEET", x -> x.feels(2, 0, 0, 9), BAD),
        new Refused("feels(0, 1, 0, 9), another sort", x -> x.feels(0, 1, 0, 9), BAD),
        new Refused("feels(0, 1, -1, 1), another sort", x -> x.feels(0, 1, -1, 1), OTHER_SORT),
        new Refused("feels(2, 1, -1, 1), a missing SHEET", x -> x.feels(2, 1, -1, 1), NOTHING),
        new Refused("taken(2, 6)", x -> x.taken(2, 6), BAD),
        new Refused("taken(0, 6)", x -> x.taken(0, 6), BAD));
  }

  private static List<Refused> firstOfFull() {
    return List.of(
        new Refused("person(100), a tenth one", x -> x.person(100), BAD),
        new Refused("feel(0, 9, 1, 1, 0) with 36", x -> x.feel(0, 9, 1, 1, 0), BAD),
        new Refused("feed(9, 0) with 160 bytes", x -> x.feed(9, 0), BAD),
        new Refused("text() of no TEXT, with 6 of them", x -> x.text(), FULL),
        new Refused("camping(6, 3) with 10", x -> x.camping(6, 3), BAD),
        new Refused("camping(0, 4) with 10", x -> x.camping(0, 4), BAD),
        new Refused("camping(0, 2) with 10, a missing SHEET", x -> x.camping(0, 2), NOTHING));
  }

  private static List<Refused> firstOfNone() {
    return List.of(
        new Refused("together(0, 0) with none of ALL", x -> x.together(0, 0), BAD),
        new Refused("together(0, 4) with none of ALL", x -> x.together(0, 4), BAD),
        new Refused("bring(3, 3) with none of ALL", x -> x.bring(3, 3), BAD),
        new Refused("bring(-1, 3) with none of ALL", x -> x.bring(-1, 3), BAD),
        new Refused("many(0), where many(1) is NONE", x -> x.many(0), BAD));
  }

  private static List<Refused> ofPeople() {
    return List.of(
        new Refused("person(-1)", x -> x.person(-1), BAD),
        new Refused("set(0, 2, 100)", x -> x.set(0, 2, 100), NO_SUCH),
        new Refused("set(1, 2, 2)", x -> x.set(1, 2, 2), NO_SUCH),
        new Refused("set(2, 2, 1)", x -> x.set(2, 2, 1), NO_SUCH),
        new Refused("set(0, 5, 1)", x -> x.set(0, 5, 1), NO_SUCH),
        new Refused("feel(0, 0, 1, 1, 0)", x -> x.feel(0, 0, 1, 1, 0), BAD),
        new Refused("feel(0, 5, 1, 1, 0)", x -> x.feel(0, 5, 1, 1, 0), BAD),
        new Refused("feel(0, 1, 0, 1, 0)", x -> x.feel(0, 1, 0, 1, 0), BAD),
        new Refused("feel(0, 1, 1, 0, 0)", x -> x.feel(0, 1, 1, 0, 0), BAD),
        new Refused("feel(0, 3, 1, 100, 0)", x -> x.feel(0, 3, 1, 100, 0), BAD),
        new Refused("feel(0, 3, 1, 1, 4)", x -> x.feel(0, 3, 1, 1, 4), BAD),
        new Refused("felt(5, 0)", x -> x.felt(5, 0), NO_SUCH),
        new Refused("between(0, 5)", x -> x.between(0, 5), BAD),
        new Refused("feed(0, 65)", x -> x.feed(0, 65), BAD),
        new Refused("feed(9, 65)", x -> x.feed(9, 65), BAD),
        new Refused("force(2)", x -> x.force(2), BAD),
        new Refused("force(-1)", x -> x.force(-1), BAD),
        new Refused("camping(6, 1)", x -> x.camping(6, 1), BAD),
        new Refused("camping(0, 0) by -1", x -> x.camping(0, 0), BAD),
        new Refused("camping(0, 2)", x -> x.camping(0, 2), NOTHING),
        new Refused("camped(2, 0)", x -> x.camped(2, 0), BAD),
        new Refused("cost(2)", x -> x.cost(2), NO),
        new Refused("move(0, 5, 1)", x -> x.move(0, 5, 1), NO),
        new Refused("move(0, 1, 4)", x -> x.move(0, 1, 4), NO),
        new Refused("same(0, 2)", x -> x.same(0, 2), BAD));
  }

  private static List<Refused> ofWhatFollows() {
    return List.of(
        new Refused("ring(9)", x -> x.ring(9), -1),
        new Refused("all(512)", x -> x.all(512), -1),
        new Refused("together(0, 5)", x -> x.together(0, 5), BAD),
        new Refused("many(5)", x -> x.many(5), BAD),
        new Refused("part(5)", x -> x.part(5), BAD),
        new Refused("step(5)", x -> x.step(5), BAD),
        new Refused("step(3), none", x -> x.step(3), -1),
        new Refused("ends(21)", x -> x.ends(21), BAD),
        new Refused("ends(0), not", x -> x.ends(0), -1),
        new Refused("meet(0, 1, 0)", x -> x.meet(0, 1, 0), NO),
        new Refused("meet(0, 3, 2)", x -> x.meet(0, 3, 2), NO),
        new Refused("edge(5)", x -> x.edge(5), NO),
        new Refused("bring(0, 5)", x -> x.bring(0, 5), BAD),
        new Refused("bring(3, 4), in two camps", x -> x.bring(3, 4), STATE),
        new Refused("count(8)", x -> x.count(8), BAD));
  }

  private static List<Refused> ofTheHost() {
    return List.of(
        new Refused("sheet(4, 0, 1)", x -> x.sheet(4, 0, 1), BAD),
        new Refused("sheet(1, 3, 1)", x -> x.sheet(1, 3, 1), BAD),
        new Refused("sheet(1, 2, 41)", x -> x.sheet(1, 2, 41), BAD),
        new Refused("sheet(1, 2, -1)", x -> x.sheet(1, 2, -1), BELOW_ZERO),
        new Refused("sheet(2, 2, -1)", x -> x.sheet(2, 2, -1), BELOW_ZERO),
        new Refused("cell(4, 0, 1)", x -> x.cell(4, 0, 1), BAD),
        new Refused("cell(2, 0, 1)", x -> x.cell(2, 0, 1), NOTHING),
        new Refused("cell(1, 5, 1)", x -> x.cell(1, 5, 1), OUTSIDE),
        new Refused("cell(1, -1, 1)", x -> x.cell(1, -1, 1), OUTSIDE),
        new Refused("copy(1, 0, 2, 0, 5)", x -> x.copy(1, 0, 2, 0, 5), NOTHING),
        new Refused("copy(0, 0, 1, 0, 5)", x -> x.copy(0, 0, 1, 0, 5), OTHER_SORT),
        new Refused("copy(1, 0, 1, 1, 5)", x -> x.copy(1, 0, 1, 1, 5), OUTSIDE),
        new Refused("copy(1, 1, 3, 0, 5)", x -> x.copy(1, 1, 3, 0, 5), OUTSIDE),
        new Refused("copy(1, 1, 3, 0, -1)", x -> x.copy(1, 1, 3, 0, -1), OUTSIDE),
        new Refused("feels(0, 0, 0, 9)", x -> x.feels(0, 0, 0, 9), BAD),
        new Refused("feels(0, 1, 0, 1)", x -> x.feels(0, 1, 0, 1), OTHER_SORT),
        new Refused("feels(2, 0, 0, 1)", x -> x.feels(2, 0, 0, 1), NOTHING),
        new Refused("feels(0, 0, 1, 1), nothing stood ahead", x -> x.feels(0, 0, 1, 1), OUTSIDE),
        new Refused("taken(0, 2)", x -> x.taken(0, 2), OTHER_SORT),
        new Refused("taken(2, 0)", x -> x.taken(2, 0), NOTHING));
  }

  private static List<Refused> ofFull() {
    return List.of(
        new Refused("person(0)", x -> x.person(0), FULL),
        new Refused("feed(1, 0)", x -> x.feed(1, 0), FULL),
        new Refused("feed(8, 0)", x -> x.feed(8, 0), FULL),
        new Refused("text()", x -> x.text(), FULL),
        new Refused("camping(0, 3)", x -> x.camping(0, 3), FULL));
  }

  private static List<Refused> ofNone() {
    return List.of(
        new Refused("least()", x -> x.least(), -1),
        new Refused("together(0, 3)", x -> x.together(0, 3), STATE),
        new Refused("bring(0, 3)", x -> x.bring(0, 3), STATE),
        new Refused("meet(0, 3, 0)", x -> x.meet(0, 3, 0), NO),
        new Refused("edge(0)", x -> x.edge(0), NO),
        new Refused("many(1)", x -> x.many(1), -1),
        new Refused("peace()", x -> x.peace(), -1),
        new Refused("back()", x -> x.back(), STATE));
  }

  private static void asDue(Boundary b, Street street, List<Refused> calls) {
    for (Refused refused : calls) {
      b.due(refused.name, refused.call.on(street.make()), refused.due);
    }
  }

  /** Behind the refused call a street answers all that is asked as a like one does that was not asked for it. */
  private static void changeNothing(Boundary b, Street street, List<Refused> calls) {
    long[] due = allAnswers(street.make());
    for (Refused refused : calls) {
      TwoCamps x = street.make();
      b.due(refused.name, refused.call.on(x), refused.due);
      b.due("all answers behind " + refused.name, Arrays.equals(allAnswers(x), due) ? 1 : 0, 1);
    }
  }

  /** All that a street can tell of itself in the calls that are left to it of 512. */
  private static long[] allAnswers(TwoCamps x) {
    List<Long> answers = new ArrayList<>();
    for (int what = 0; what < 8; what++) {
      answers.add((long) x.count(what));
    }
    feelings(x, answers);
    int campings = x.count(5);
    for (int c = 0; c < campings; c++) {
      answers.add(x.cost(c));
      answers.add((long) x.camped(c, 2));
    }
    answers.add((long) x.least());
    answers.add((long) x.all(-1));
    answers.add((long) x.all(0));
    answers.add((long) x.ring(0));
    answers.add((long) x.threes());
    sheets(x, answers);
    // what stands on THE TAPE: a LINE, or the most of one
    answers.add((long) x.feed(1, ';'));
    answers.add((long) x.street());
    answers.add((long) x.felt(0, 3));
    people(x, answers);
    answers.add((long) x.back());
    feelings(x, answers);
    people(x, answers);
    int texts = x.count(2);
    for (int text = 0; text < texts; text++) {
      answers.add((long) x.force(text));
      answers.add((long) x.felt(0, 6));
    }
    return answers.stream().mapToLong(answer -> answer).toArray();
  }

  private static void feelings(TwoCamps x, List<Long> answers) {
    int size = x.count(1);
    for (int f = 0; f < size; f++) {
      for (int what = 2; what < 5; what++) {
        answers.add((long) x.felt(f, what));
      }
    }
    answers.add((long) x.felt(2, 5));
  }

  private static void people(TwoCamps x, List<Long> answers) {
    int size = x.count(0);
    for (int p = 0; p < size; p++) {
      answers.add((long) x.set(0, p, 11));
      answers.add((long) x.set(1, p, 0));
    }
  }

  private static void sheets(TwoCamps x, List<Long> answers) {
    for (int sheet = 0; sheet < 4; sheet++) {
      answers.add((long) x.camping(2, sheet));
      answers.add(x.cost(x.count(5) - 1));
      for (int sort = 0; sort < 3; sort++) {
        answers.add((long) x.feels(sheet, sort, 0, 1));
      }
      answers.add((long) x.felt(0, 3));
    }
  }
}
