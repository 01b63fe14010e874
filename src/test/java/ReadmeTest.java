import java.io.IOException;
import java.nio.file.Files;
import java.nio.file.Path;
import java.util.List;

/** The README's example answers as it says, and its letters are the class's; run from the root. */
public final class ReadmeTest {
    private static final Path README = Path.of("README.md");

    private final List<String> lines;
    private int at;

    private ReadmeTest(List<String> lines) {
        this.lines = lines;
    }

    public static void main(String[] args) throws IOException {
        ReadmeTest test = new ReadmeTest(Files.readAllLines(README));
        test.example();
        test.letters();
        Check.end();
    }

    private void example() {
        at = lines.indexOf("BuildingClub club = new BuildingClub();") + 1;
        BuildingClub club = new BuildingClub();
        due("club.member(2);", club.member(2));
        due("club.member(1);", club.member(1));
        due("club.feed(0x68313030, 0x3b673200, 0, 0, 0);", club.feed(0x68313030, 0x3b673200, 0, 0, 0));
        due("club.vote(0b11, 7);", club.vote(0b11, 7));
        due("club.pay(0, 500);", club.pay(0, 500));
        due("club.pay(1, 400);", club.pay(1, 400));
        due("club.week(2);", club.week(2));
        due("club.look(0, 8);", club.look(0, 8));
        due("club.club(0);", club.club(0));
        due("club.end();", club.end());
        due("club.beside(0, 1);", club.beside(0, 1));
        due("club.beside(0, 2);", club.beside(0, 2));
        due("club.seen(0);", club.seen(0));
        due("club.seen(0);", club.seen(0));
        due("club.week(1);", club.week(1));
        due("club.look(0, 5);", club.look(0, 5));
        due("club.leave(1);", club.leave(1));
        due("club.count(6);", club.count(6));
        Check.due("the example ends", lines.get(at), "```");
    }

    /** The next line of the example is this call, and tells this answer. */
    private void due(String call, Object answer) {
        String[] parts = lines.get(at++).split(" +// |:|$", 3);
        Check.due("line " + at, parts[0], call);
        Check.due(call, String.valueOf(answer), parts.length > 1 ? parts[1] : "");
    }

    private void letters() {
        int letters = 0;
        for (String line : lines) {
            String[] cells = line.split(" *\\| *");
            if (cells.length == 5 && cells[1].matches("`[a-z]`")) {
                letters++;
                letter(cells[1].charAt(1), cells[3].split(", "), Integer.parseInt(cells[4]));
            }
        }
        Check.due("letters", letters, 8);
    }

    private static void letter(char letter, String[] range, int first) {
        Check.due(letter + " at first", new BuildingClub().rule(letter), first);
        int least = Integer.parseInt(range[0]);
        int most = Integer.parseInt(range[1]);
        Check.due(letter + "" + least, Check.vote(Check.club(1), 1, letter + "" + least), 0);
        Check.due(letter + "" + most, Check.vote(Check.club(1), 1, letter + "" + most), 0);
        if (least > 0) {
            Check.due("below " + least, Check.vote(Check.club(1), 1, letter + "" + (least - 1)), -401);
        }
        int fault = most == 9999 ? -305 : -401;
        Check.due("above " + most, Check.vote(Check.club(1), 1, letter + "" + (most + 1)), fault);
    }
}
